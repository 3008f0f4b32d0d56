section
/-- a private method of a class that the tables say can be made, by its rows of tables_1 -/
def lw_okq (q : MethodName × Nat) : Prop := (q.1.cls ≠ "java/lang/invoke/MethodHandle" ∧ q.1.cls ≠ "java/lang/invoke/VarHandle") ∧ Cond.instantiable q.1.cls q.2 ∈ tables_1 ∧ Cond.privateMethod q.1 ∈ tables_1 ∧ Cond.instanceMethod q.1 ∈ tables_1
theorem lw_p0 : lw_okq (⟨"CalledSquare$Square", "isHome", "(I)Z"⟩, 9) := ⟨⟨by decide +kernel, by decide +kernel⟩, List.mem_of_getElem? (i := 21) (by decide +kernel), List.mem_of_getElem? (i := 241) (by decide +kernel), List.mem_of_getElem? (i := 242) (by decide +kernel)⟩
theorem lw_p1 : lw_okq (⟨"CalledSquare", "settled", "(I)I"⟩, 5) := ⟨⟨by decide +kernel, by decide +kernel⟩, List.mem_of_getElem? (i := 13) (by decide +kernel), List.mem_of_getElem? (i := 245) (by decide +kernel), List.mem_of_getElem? (i := 246) (by decide +kernel)⟩
theorem lw_p2 : lw_okq (⟨"CalledSquare", "noted", "(I)I"⟩, 5) := ⟨⟨by decide +kernel, by decide +kernel⟩, List.mem_of_getElem? (i := 13) (by decide +kernel), List.mem_of_getElem? (i := 256) (by decide +kernel), List.mem_of_getElem? (i := 257) (by decide +kernel)⟩
theorem lw_p3 : lw_okq (⟨"CalledSquare$Square", "isSpotOfCall", "(II)Z"⟩, 9) := ⟨⟨by decide +kernel, by decide +kernel⟩, List.mem_of_getElem? (i := 21) (by decide +kernel), List.mem_of_getElem? (i := 280) (by decide +kernel), List.mem_of_getElem? (i := 281) (by decide +kernel)⟩
theorem lw_p4 : lw_okq (⟨"CalledSquare$Square", "move", "([ILCalledSquare$Call;)I"⟩, 9) := ⟨⟨by decide +kernel, by decide +kernel⟩, List.mem_of_getElem? (i := 21) (by decide +kernel), List.mem_of_getElem? (i := 348) (by decide +kernel), List.mem_of_getElem? (i := 349) (by decide +kernel)⟩
theorem lw_p5 : lw_okq (⟨"CalledSquare$Square", "howManyAreHome", "()I"⟩, 9) := ⟨⟨by decide +kernel, by decide +kernel⟩, List.mem_of_getElem? (i := 21) (by decide +kernel), List.mem_of_getElem? (i := 364) (by decide +kernel), List.mem_of_getElem? (i := 365) (by decide +kernel)⟩
theorem lw_p6 : lw_okq (⟨"CalledSquare$Square", "partnerOf", "(I)I"⟩, 9) := ⟨⟨by decide +kernel, by decide +kernel⟩, List.mem_of_getElem? (i := 21) (by decide +kernel), List.mem_of_getElem? (i := 376) (by decide +kernel), List.mem_of_getElem? (i := 377) (by decide +kernel)⟩
theorem lw_p7 : lw_okq (⟨"CalledSquare$Square", "isPaired", "(I)Z"⟩, 9) := ⟨⟨by decide +kernel, by decide +kernel⟩, List.mem_of_getElem? (i := 21) (by decide +kernel), List.mem_of_getElem? (i := 380) (by decide +kernel), List.mem_of_getElem? (i := 381) (by decide +kernel)⟩
theorem lw_p8 : lw_okq (⟨"CalledSquare$Search", "start", "(LCalledSquare$Square;I)V"⟩, 15) := ⟨⟨by decide +kernel, by decide +kernel⟩, List.mem_of_getElem? (i := 140) (by decide +kernel), List.mem_of_getElem? (i := 447) (by decide +kernel), List.mem_of_getElem? (i := 448) (by decide +kernel)⟩
theorem lw_p9 : lw_okq (⟨"CalledSquare$Search", "rowsOfLength", "(I)I"⟩, 15) := ⟨⟨by decide +kernel, by decide +kernel⟩, List.mem_of_getElem? (i := 140) (by decide +kernel), List.mem_of_getElem? (i := 458) (by decide +kernel), List.mem_of_getElem? (i := 459) (by decide +kernel)⟩
theorem lw_p10 : lw_okq (⟨"CalledSquare$Search", "isGoalBehind", "(II)Z"⟩, 15) := ⟨⟨by decide +kernel, by decide +kernel⟩, List.mem_of_getElem? (i := 140) (by decide +kernel), List.mem_of_getElem? (i := 462) (by decide +kernel), List.mem_of_getElem? (i := 463) (by decide +kernel)⟩
theorem lw_p11 : lw_okq (⟨"CalledSquare$Search", "mayCome", "(II)Z"⟩, 15) := ⟨⟨by decide +kernel, by decide +kernel⟩, List.mem_of_getElem? (i := 140) (by decide +kernel), List.mem_of_getElem? (i := 470) (by decide +kernel), List.mem_of_getElem? (i := 471) (by decide +kernel)⟩
theorem lw_p12 : lw_okq (⟨"CalledSquare$Search", "step", "(II)V"⟩, 15) := ⟨⟨by decide +kernel, by decide +kernel⟩, List.mem_of_getElem? (i := 140) (by decide +kernel), List.mem_of_getElem? (i := 474) (by decide +kernel), List.mem_of_getElem? (i := 475) (by decide +kernel)⟩
theorem lw_p13 : lw_okq (⟨"CalledSquare$Square", "howManyPartnersArePaired", "()I"⟩, 9) := ⟨⟨by decide +kernel, by decide +kernel⟩, List.mem_of_getElem? (i := 21) (by decide +kernel), List.mem_of_getElem? (i := 537) (by decide +kernel), List.mem_of_getElem? (i := 538) (by decide +kernel)⟩
theorem lw_p14 : lw_okq (⟨"CalledSquare$Square", "callsThatFit", "()I"⟩, 9) := ⟨⟨by decide +kernel, by decide +kernel⟩, List.mem_of_getElem? (i := 21) (by decide +kernel), List.mem_of_getElem? (i := 541) (by decide +kernel), List.mem_of_getElem? (i := 542) (by decide +kernel)⟩
theorem lw_p15 : lw_okq (⟨"CalledSquare$Text", "nextSign", "()I"⟩, 8) := ⟨⟨by decide +kernel, by decide +kernel⟩, List.mem_of_getElem? (i := 105) (by decide +kernel), List.mem_of_getElem? (i := 578) (by decide +kernel), List.mem_of_getElem? (i := 579) (by decide +kernel)⟩
def lw_privs_1 : List (MethodName × Nat) := [(⟨"CalledSquare$Square", "isHome", "(I)Z"⟩, 9), (⟨"CalledSquare", "settled", "(I)I"⟩, 5), (⟨"CalledSquare", "noted", "(I)I"⟩, 5), (⟨"CalledSquare$Square", "isSpotOfCall", "(II)Z"⟩, 9), (⟨"CalledSquare$Square", "move", "([ILCalledSquare$Call;)I"⟩, 9), (⟨"CalledSquare$Square", "howManyAreHome", "()I"⟩, 9), (⟨"CalledSquare$Square", "partnerOf", "(I)I"⟩, 9), (⟨"CalledSquare$Square", "isPaired", "(I)Z"⟩, 9), (⟨"CalledSquare$Search", "start", "(LCalledSquare$Square;I)V"⟩, 15), (⟨"CalledSquare$Search", "rowsOfLength", "(I)I"⟩, 15), (⟨"CalledSquare$Search", "isGoalBehind", "(II)Z"⟩, 15), (⟨"CalledSquare$Search", "mayCome", "(II)Z"⟩, 15), (⟨"CalledSquare$Search", "step", "(II)V"⟩, 15), (⟨"CalledSquare$Square", "howManyPartnersArePaired", "()I"⟩, 9), (⟨"CalledSquare$Square", "callsThatFit", "()I"⟩, 9), (⟨"CalledSquare$Text", "nextSign", "()I"⟩, 8)]
theorem lw_r1 : ∀ q ∈ lw_privs_1, lw_okq q := List.forall_mem_cons.mpr ⟨lw_p0, List.forall_mem_cons.mpr ⟨lw_p1, List.forall_mem_cons.mpr ⟨lw_p2, List.forall_mem_cons.mpr ⟨lw_p3, List.forall_mem_cons.mpr ⟨lw_p4, List.forall_mem_cons.mpr ⟨lw_p5, List.forall_mem_cons.mpr ⟨lw_p6, List.forall_mem_cons.mpr ⟨lw_p7, List.forall_mem_cons.mpr ⟨lw_p8, List.forall_mem_cons.mpr ⟨lw_p9, List.forall_mem_cons.mpr ⟨lw_p10, List.forall_mem_cons.mpr ⟨lw_p11, List.forall_mem_cons.mpr ⟨lw_p12, List.forall_mem_cons.mpr ⟨lw_p13, List.forall_mem_cons.mpr ⟨lw_p14, List.forall_mem_cons.mpr ⟨lw_p15, fun _ h => absurd h List.not_mem_nil⟩⟩⟩⟩⟩⟩⟩⟩⟩⟩⟩⟩⟩⟩⟩⟩
theorem lw_p16 : lw_okq (⟨"CalledSquare$Text", "skipBlanks", "()V"⟩, 8) := ⟨⟨by decide +kernel, by decide +kernel⟩, List.mem_of_getElem? (i := 105) (by decide +kernel), List.mem_of_getElem? (i := 582) (by decide +kernel), List.mem_of_getElem? (i := 583) (by decide +kernel)⟩
theorem lw_p17 : lw_okq (⟨"CalledSquare$Text", "fails", "(I)Z"⟩, 8) := ⟨⟨by decide +kernel, by decide +kernel⟩, List.mem_of_getElem? (i := 105) (by decide +kernel), List.mem_of_getElem? (i := 589) (by decide +kernel), List.mem_of_getElem? (i := 590) (by decide +kernel)⟩
theorem lw_p18 : lw_okq (⟨"CalledSquare$Text", "readCycles", "()Z"⟩, 8) := ⟨⟨by decide +kernel, by decide +kernel⟩, List.mem_of_getElem? (i := 105) (by decide +kernel), List.mem_of_getElem? (i := 593) (by decide +kernel), List.mem_of_getElem? (i := 594) (by decide +kernel)⟩
theorem lw_p19 : lw_okq (⟨"CalledSquare$Text", "readCycle", "()Z"⟩, 8) := ⟨⟨by decide +kernel, by decide +kernel⟩, List.mem_of_getElem? (i := 105) (by decide +kernel), List.mem_of_getElem? (i := 597) (by decide +kernel), List.mem_of_getElem? (i := 598) (by decide +kernel)⟩
theorem lw_p20 : lw_okq (⟨"CalledSquare$Text", "readNumber", "()I"⟩, 8) := ⟨⟨by decide +kernel, by decide +kernel⟩, List.mem_of_getElem? (i := 105) (by decide +kernel), List.mem_of_getElem? (i := 601) (by decide +kernel), List.mem_of_getElem? (i := 602) (by decide +kernel)⟩
theorem lw_p21 : lw_okq (⟨"CalledSquare$Text", "isFigure", "()Z"⟩, 8) := ⟨⟨by decide +kernel, by decide +kernel⟩, List.mem_of_getElem? (i := 105) (by decide +kernel), List.mem_of_getElem? (i := 605) (by decide +kernel), List.mem_of_getElem? (i := 606) (by decide +kernel)⟩
theorem lw_p22 : lw_okq (⟨"CalledSquare$Text", "takesSpot", "(II)Z"⟩, 8) := ⟨⟨by decide +kernel, by decide +kernel⟩, List.mem_of_getElem? (i := 105) (by decide +kernel), List.mem_of_getElem? (i := 609) (by decide +kernel), List.mem_of_getElem? (i := 610) (by decide +kernel)⟩
theorem lw_p23 : lw_okq (⟨"CalledSquare$Text", "readNumbers", "(I)Z"⟩, 8) := ⟨⟨by decide +kernel, by decide +kernel⟩, List.mem_of_getElem? (i := 105) (by decide +kernel), List.mem_of_getElem? (i := 613) (by decide +kernel), List.mem_of_getElem? (i := 614) (by decide +kernel)⟩
theorem lw_p24 : lw_okq (⟨"CalledSquare", "doOrder", "()I"⟩, 5) := ⟨⟨by decide +kernel, by decide +kernel⟩, List.mem_of_getElem? (i := 13) (by decide +kernel), List.mem_of_getElem? (i := 624) (by decide +kernel), List.mem_of_getElem? (i := 625) (by decide +kernel)⟩
theorem lw_p25 : lw_okq (⟨"CalledSquare", "mixedWithCall", "(JI)J"⟩, 5) := ⟨⟨by decide +kernel, by decide +kernel⟩, List.mem_of_getElem? (i := 13) (by decide +kernel), List.mem_of_getElem? (i := 658) (by decide +kernel), List.mem_of_getElem? (i := 659) (by decide +kernel)⟩
theorem lw_p26 : lw_okq (⟨"CalledSquareModel", "notes", "()V"⟩, 14) := ⟨⟨by decide +kernel, by decide +kernel⟩, List.mem_of_getElem? (i := 662) (by decide +kernel), List.mem_of_getElem? (i := 715) (by decide +kernel), List.mem_of_getElem? (i := 716) (by decide +kernel)⟩
theorem lw_p27 : lw_okq (⟨"CalledSquareModel", "comes", "(II)I"⟩, 14) := ⟨⟨by decide +kernel, by decide +kernel⟩, List.mem_of_getElem? (i := 662) (by decide +kernel), List.mem_of_getElem? (i := 719) (by decide +kernel), List.mem_of_getElem? (i := 720) (by decide +kernel)⟩
theorem lw_p28 : lw_okq (⟨"CalledSquareModel", "done", "(I)I"⟩, 14) := ⟨⟨by decide +kernel, by decide +kernel⟩, List.mem_of_getElem? (i := 662) (by decide +kernel), List.mem_of_getElem? (i := 729) (by decide +kernel), List.mem_of_getElem? (i := 730) (by decide +kernel)⟩
theorem lw_p29 : lw_okq (⟨"CalledSquareModel", "refused", "(I)I"⟩, 14) := ⟨⟨by decide +kernel, by decide +kernel⟩, List.mem_of_getElem? (i := 662) (by decide +kernel), List.mem_of_getElem? (i := 733) (by decide +kernel), List.mem_of_getElem? (i := 734) (by decide +kernel)⟩
theorem lw_p30 : lw_okq (⟨"CalledSquareModel", "keeps", "()V"⟩, 14) := ⟨⟨by decide +kernel, by decide +kernel⟩, List.mem_of_getElem? (i := 662) (by decide +kernel), List.mem_of_getElem? (i := 737) (by decide +kernel), List.mem_of_getElem? (i := 738) (by decide +kernel)⟩
theorem lw_p31 : lw_okq (⟨"CalledSquareModel", "adds", "()I"⟩, 14) := ⟨⟨by decide +kernel, by decide +kernel⟩, List.mem_of_getElem? (i := 662) (by decide +kernel), List.mem_of_getElem? (i := 745) (by decide +kernel), List.mem_of_getElem? (i := 746) (by decide +kernel)⟩
def lw_privs_2 : List (MethodName × Nat) := [(⟨"CalledSquare$Text", "skipBlanks", "()V"⟩, 8), (⟨"CalledSquare$Text", "fails", "(I)Z"⟩, 8), (⟨"CalledSquare$Text", "readCycles", "()Z"⟩, 8), (⟨"CalledSquare$Text", "readCycle", "()Z"⟩, 8), (⟨"CalledSquare$Text", "readNumber", "()I"⟩, 8), (⟨"CalledSquare$Text", "isFigure", "()Z"⟩, 8), (⟨"CalledSquare$Text", "takesSpot", "(II)Z"⟩, 8), (⟨"CalledSquare$Text", "readNumbers", "(I)Z"⟩, 8), (⟨"CalledSquare", "doOrder", "()I"⟩, 5), (⟨"CalledSquare", "mixedWithCall", "(JI)J"⟩, 5), (⟨"CalledSquareModel", "notes", "()V"⟩, 14), (⟨"CalledSquareModel", "comes", "(II)I"⟩, 14), (⟨"CalledSquareModel", "done", "(I)I"⟩, 14), (⟨"CalledSquareModel", "refused", "(I)I"⟩, 14), (⟨"CalledSquareModel", "keeps", "()V"⟩, 14), (⟨"CalledSquareModel", "adds", "()I"⟩, 14)]
theorem lw_r2 : ∀ q ∈ lw_privs_2, lw_okq q := List.forall_mem_cons.mpr ⟨lw_p16, List.forall_mem_cons.mpr ⟨lw_p17, List.forall_mem_cons.mpr ⟨lw_p18, List.forall_mem_cons.mpr ⟨lw_p19, List.forall_mem_cons.mpr ⟨lw_p20, List.forall_mem_cons.mpr ⟨lw_p21, List.forall_mem_cons.mpr ⟨lw_p22, List.forall_mem_cons.mpr ⟨lw_p23, List.forall_mem_cons.mpr ⟨lw_p24, List.forall_mem_cons.mpr ⟨lw_p25, List.forall_mem_cons.mpr ⟨lw_p26, List.forall_mem_cons.mpr ⟨lw_p27, List.forall_mem_cons.mpr ⟨lw_p28, List.forall_mem_cons.mpr ⟨lw_p29, List.forall_mem_cons.mpr ⟨lw_p30, List.forall_mem_cons.mpr ⟨lw_p31, fun _ h => absurd h List.not_mem_nil⟩⟩⟩⟩⟩⟩⟩⟩⟩⟩⟩⟩⟩⟩⟩⟩
theorem lw_p32 : lw_okq (⟨"CalledSquareModel", "place", "(III)I"⟩, 14) := ⟨⟨by decide +kernel, by decide +kernel⟩, List.mem_of_getElem? (i := 662) (by decide +kernel), List.mem_of_getElem? (i := 749) (by decide +kernel), List.mem_of_getElem? (i := 750) (by decide +kernel)⟩
theorem lw_p33 : lw_okq (⟨"CalledSquareModel", "isCall", "(I)Z"⟩, 14) := ⟨⟨by decide +kernel, by decide +kernel⟩, List.mem_of_getElem? (i := 662) (by decide +kernel), List.mem_of_getElem? (i := 757) (by decide +kernel), List.mem_of_getElem? (i := 758) (by decide +kernel)⟩
theorem lw_p34 : lw_okq (⟨"CalledSquareModel", "setsAt", "(IIII)I"⟩, 14) := ⟨⟨by decide +kernel, by decide +kernel⟩, List.mem_of_getElem? (i := 662) (by decide +kernel), List.mem_of_getElem? (i := 765) (by decide +kernel), List.mem_of_getElem? (i := 766) (by decide +kernel)⟩
theorem lw_p35 : lw_okq (⟨"CalledSquareModel", "given", "(I)I"⟩, 14) := ⟨⟨by decide +kernel, by decide +kernel⟩, List.mem_of_getElem? (i := 662) (by decide +kernel), List.mem_of_getElem? (i := 785) (by decide +kernel), List.mem_of_getElem? (i := 786) (by decide +kernel)⟩
theorem lw_p36 : lw_okq (⟨"CalledSquareModel", "fits", "(I)Z"⟩, 14) := ⟨⟨by decide +kernel, by decide +kernel⟩, List.mem_of_getElem? (i := 662) (by decide +kernel), List.mem_of_getElem? (i := 789) (by decide +kernel), List.mem_of_getElem? (i := 790) (by decide +kernel)⟩
theorem lw_p37 : lw_okq (⟨"CalledSquareModel", "who", "(I)I"⟩, 14) := ⟨⟨by decide +kernel, by decide +kernel⟩, List.mem_of_getElem? (i := 662) (by decide +kernel), List.mem_of_getElem? (i := 793) (by decide +kernel), List.mem_of_getElem? (i := 794) (by decide +kernel)⟩
theorem lw_p38 : lw_okq (⟨"CalledSquareModel", "moves", "(I)I"⟩, 14) := ⟨⟨by decide +kernel, by decide +kernel⟩, List.mem_of_getElem? (i := 662) (by decide +kernel), List.mem_of_getElem? (i := 797) (by decide +kernel), List.mem_of_getElem? (i := 798) (by decide +kernel)⟩
theorem lw_p39 : lw_okq (⟨"CalledSquareModel", "atHome", "()I"⟩, 14) := ⟨⟨by decide +kernel, by decide +kernel⟩, List.mem_of_getElem? (i := 662) (by decide +kernel), List.mem_of_getElem? (i := 805) (by decide +kernel), List.mem_of_getElem? (i := 806) (by decide +kernel)⟩
theorem lw_p40 : lw_okq (⟨"CalledSquareModel", "isHome", "(I)Z"⟩, 14) := ⟨⟨by decide +kernel, by decide +kernel⟩, List.mem_of_getElem? (i := 662) (by decide +kernel), List.mem_of_getElem? (i := 809) (by decide +kernel), List.mem_of_getElem? (i := 810) (by decide +kernel)⟩
theorem lw_p41 : lw_okq (⟨"CalledSquareModel", "plansOn", "(I)I"⟩, 14) := ⟨⟨by decide +kernel, by decide +kernel⟩, List.mem_of_getElem? (i := 662) (by decide +kernel), List.mem_of_getElem? (i := 817) (by decide +kernel), List.mem_of_getElem? (i := 818) (by decide +kernel)⟩
theorem lw_p42 : lw_okq (⟨"CalledSquareModel", "ofDancer", "(II)I"⟩, 14) := ⟨⟨by decide +kernel, by decide +kernel⟩, List.mem_of_getElem? (i := 662) (by decide +kernel), List.mem_of_getElem? (i := 833) (by decide +kernel), List.mem_of_getElem? (i := 834) (by decide +kernel)⟩
theorem lw_p43 : lw_okq (⟨"CalledSquareModel", "isDancer", "(I)Z"⟩, 14) := ⟨⟨by decide +kernel, by decide +kernel⟩, List.mem_of_getElem? (i := 662) (by decide +kernel), List.mem_of_getElem? (i := 837) (by decide +kernel), List.mem_of_getElem? (i := 838) (by decide +kernel)⟩
theorem lw_p44 : lw_okq (⟨"CalledSquareModel", "partner", "(I)I"⟩, 14) := ⟨⟨by decide +kernel, by decide +kernel⟩, List.mem_of_getElem? (i := 662) (by decide +kernel), List.mem_of_getElem? (i := 841) (by decide +kernel), List.mem_of_getElem? (i := 842) (by decide +kernel)⟩
theorem lw_p45 : lw_okq (⟨"CalledSquareModel", "arePaired", "(I)Z"⟩, 14) := ⟨⟨by decide +kernel, by decide +kernel⟩, List.mem_of_getElem? (i := 662) (by decide +kernel), List.mem_of_getElem? (i := 845) (by decide +kernel), List.mem_of_getElem? (i := 846) (by decide +kernel)⟩
theorem lw_p46 : lw_okq (⟨"CalledSquareModel", "counted", "(I)I"⟩, 14) := ⟨⟨by decide +kernel, by decide +kernel⟩, List.mem_of_getElem? (i := 662) (by decide +kernel), List.mem_of_getElem? (i := 849) (by decide +kernel), List.mem_of_getElem? (i := 850) (by decide +kernel)⟩
theorem lw_p47 : lw_okq (⟨"CalledSquareModel", "atSpot", "(III)I"⟩, 14) := ⟨⟨by decide +kernel, by decide +kernel⟩, List.mem_of_getElem? (i := 662) (by decide +kernel), List.mem_of_getElem? (i := 861) (by decide +kernel), List.mem_of_getElem? (i := 862) (by decide +kernel)⟩
def lw_privs_3 : List (MethodName × Nat) := [(⟨"CalledSquareModel", "place", "(III)I"⟩, 14), (⟨"CalledSquareModel", "isCall", "(I)Z"⟩, 14), (⟨"CalledSquareModel", "setsAt", "(IIII)I"⟩, 14), (⟨"CalledSquareModel", "given", "(I)I"⟩, 14), (⟨"CalledSquareModel", "fits", "(I)Z"⟩, 14), (⟨"CalledSquareModel", "who", "(I)I"⟩, 14), (⟨"CalledSquareModel", "moves", "(I)I"⟩, 14), (⟨"CalledSquareModel", "atHome", "()I"⟩, 14), (⟨"CalledSquareModel", "isHome", "(I)Z"⟩, 14), (⟨"CalledSquareModel", "plansOn", "(I)I"⟩, 14), (⟨"CalledSquareModel", "ofDancer", "(II)I"⟩, 14), (⟨"CalledSquareModel", "isDancer", "(I)Z"⟩, 14), (⟨"CalledSquareModel", "partner", "(I)I"⟩, 14), (⟨"CalledSquareModel", "arePaired", "(I)Z"⟩, 14), (⟨"CalledSquareModel", "counted", "(I)I"⟩, 14), (⟨"CalledSquareModel", "atSpot", "(III)I"⟩, 14)]
theorem lw_r3 : ∀ q ∈ lw_privs_3, lw_okq q := List.forall_mem_cons.mpr ⟨lw_p32, List.forall_mem_cons.mpr ⟨lw_p33, List.forall_mem_cons.mpr ⟨lw_p34, List.forall_mem_cons.mpr ⟨lw_p35, List.forall_mem_cons.mpr ⟨lw_p36, List.forall_mem_cons.mpr ⟨lw_p37, List.forall_mem_cons.mpr ⟨lw_p38, List.forall_mem_cons.mpr ⟨lw_p39, List.forall_mem_cons.mpr ⟨lw_p40, List.forall_mem_cons.mpr ⟨lw_p41, List.forall_mem_cons.mpr ⟨lw_p42, List.forall_mem_cons.mpr ⟨lw_p43, List.forall_mem_cons.mpr ⟨lw_p44, List.forall_mem_cons.mpr ⟨lw_p45, List.forall_mem_cons.mpr ⟨lw_p46, List.forall_mem_cons.mpr ⟨lw_p47, fun _ h => absurd h List.not_mem_nil⟩⟩⟩⟩⟩⟩⟩⟩⟩⟩⟩⟩⟩⟩⟩⟩
theorem lw_p48 : lw_okq (⟨"CalledSquareModel", "ofCall", "(II)I"⟩, 14) := ⟨⟨by decide +kernel, by decide +kernel⟩, List.mem_of_getElem? (i := 662) (by decide +kernel), List.mem_of_getElem? (i := 869) (by decide +kernel), List.mem_of_getElem? (i := 870) (by decide +kernel)⟩
theorem lw_p49 : lw_okq (⟨"CalledSquareModel", "round", "(I)I"⟩, 14) := ⟨⟨by decide +kernel, by decide +kernel⟩, List.mem_of_getElem? (i := 662) (by decide +kernel), List.mem_of_getElem? (i := 873) (by decide +kernel), List.mem_of_getElem? (i := 874) (by decide +kernel)⟩
theorem lw_p50 : lw_okq (⟨"CalledSquareModel", "cycle", "(II)I"⟩, 14) := ⟨⟨by decide +kernel, by decide +kernel⟩, List.mem_of_getElem? (i := 662) (by decide +kernel), List.mem_of_getElem? (i := 877) (by decide +kernel), List.mem_of_getElem? (i := 878) (by decide +kernel)⟩
theorem lw_p51 : lw_okq (⟨"CalledSquareModel", "fewest", "(III)I"⟩, 14) := ⟨⟨by decide +kernel, by decide +kernel⟩, List.mem_of_getElem? (i := 662) (by decide +kernel), List.mem_of_getElem? (i := 888) (by decide +kernel), List.mem_of_getElem? (i := 889) (by decide +kernel)⟩
theorem lw_p52 : lw_okq (⟨"CalledSquareModel", "search", "(III)I"⟩, 14) := ⟨⟨by decide +kernel, by decide +kernel⟩, List.mem_of_getElem? (i := 662) (by decide +kernel), List.mem_of_getElem? (i := 892) (by decide +kernel), List.mem_of_getElem? (i := 893) (by decide +kernel)⟩
theorem lw_p53 : lw_okq (⟨"CalledSquareModel", "isGoal", "(I)Z"⟩, 14) := ⟨⟨by decide +kernel, by decide +kernel⟩, List.mem_of_getElem? (i := 662) (by decide +kernel), List.mem_of_getElem? (i := 896) (by decide +kernel), List.mem_of_getElem? (i := 897) (by decide +kernel)⟩
theorem lw_p54 : lw_okq (⟨"CalledSquareModel", "pairs", "()I"⟩, 14) := ⟨⟨by decide +kernel, by decide +kernel⟩, List.mem_of_getElem? (i := 662) (by decide +kernel), List.mem_of_getElem? (i := 900) (by decide +kernel), List.mem_of_getElem? (i := 901) (by decide +kernel)⟩
theorem lw_p55 : lw_okq (⟨"CalledSquareModel", "holds", "(I)V"⟩, 14) := ⟨⟨by decide +kernel, by decide +kernel⟩, List.mem_of_getElem? (i := 662) (by decide +kernel), List.mem_of_getElem? (i := 904) (by decide +kernel), List.mem_of_getElem? (i := 905) (by decide +kernel)⟩
theorem lw_p56 : lw_okq (⟨"CalledSquareModel", "returns", "(I)V"⟩, 14) := ⟨⟨by decide +kernel, by decide +kernel⟩, List.mem_of_getElem? (i := 662) (by decide +kernel), List.mem_of_getElem? (i := 908) (by decide +kernel), List.mem_of_getElem? (i := 909) (by decide +kernel)⟩
theorem lw_p57 : lw_okq (⟨"CalledSquareModel", "isVaried", "(III)Z"⟩, 14) := ⟨⟨by decide +kernel, by decide +kernel⟩, List.mem_of_getElem? (i := 662) (by decide +kernel), List.mem_of_getElem? (i := 912) (by decide +kernel), List.mem_of_getElem? (i := 913) (by decide +kernel)⟩
theorem lw_p58 : lw_okq (⟨"CalledSquareModel", "walks", "()I"⟩, 14) := ⟨⟨by decide +kernel, by decide +kernel⟩, List.mem_of_getElem? (i := 662) (by decide +kernel), List.mem_of_getElem? (i := 928) (by decide +kernel), List.mem_of_getElem? (i := 929) (by decide +kernel)⟩
theorem lw_p59 : lw_okq (⟨"CalledSquareModel", "number", "(I)I"⟩, 14) := ⟨⟨by decide +kernel, by decide +kernel⟩, List.mem_of_getElem? (i := 662) (by decide +kernel), List.mem_of_getElem? (i := 940) (by decide +kernel), List.mem_of_getElem? (i := 941) (by decide +kernel)⟩
theorem lw_p60 : lw_okq (⟨"CalledSquareModel", "reads", "()Z"⟩, 14) := ⟨⟨by decide +kernel, by decide +kernel⟩, List.mem_of_getElem? (i := 662) (by decide +kernel), List.mem_of_getElem? (i := 956) (by decide +kernel), List.mem_of_getElem? (i := 957) (by decide +kernel)⟩
theorem lw_p61 : lw_okq (⟨"CalledSquareModel", "blanks", "()V"⟩, 14) := ⟨⟨by decide +kernel, by decide +kernel⟩, List.mem_of_getElem? (i := 662) (by decide +kernel), List.mem_of_getElem? (i := 960) (by decide +kernel), List.mem_of_getElem? (i := 961) (by decide +kernel)⟩
theorem lw_p62 : lw_okq (⟨"CalledSquareModel", "byteAt", "(I)I"⟩, 14) := ⟨⟨by decide +kernel, by decide +kernel⟩, List.mem_of_getElem? (i := 662) (by decide +kernel), List.mem_of_getElem? (i := 964) (by decide +kernel), List.mem_of_getElem? (i := 965) (by decide +kernel)⟩
theorem lw_p63 : lw_okq (⟨"CalledSquareModel", "readsOrder", "()Z"⟩, 14) := ⟨⟨by decide +kernel, by decide +kernel⟩, List.mem_of_getElem? (i := 662) (by decide +kernel), List.mem_of_getElem? (i := 968) (by decide +kernel), List.mem_of_getElem? (i := 969) (by decide +kernel)⟩
def lw_privs_4 : List (MethodName × Nat) := [(⟨"CalledSquareModel", "ofCall", "(II)I"⟩, 14), (⟨"CalledSquareModel", "round", "(I)I"⟩, 14), (⟨"CalledSquareModel", "cycle", "(II)I"⟩, 14), (⟨"CalledSquareModel", "fewest", "(III)I"⟩, 14), (⟨"CalledSquareModel", "search", "(III)I"⟩, 14), (⟨"CalledSquareModel", "isGoal", "(I)Z"⟩, 14), (⟨"CalledSquareModel", "pairs", "()I"⟩, 14), (⟨"CalledSquareModel", "holds", "(I)V"⟩, 14), (⟨"CalledSquareModel", "returns", "(I)V"⟩, 14), (⟨"CalledSquareModel", "isVaried", "(III)Z"⟩, 14), (⟨"CalledSquareModel", "walks", "()I"⟩, 14), (⟨"CalledSquareModel", "number", "(I)I"⟩, 14), (⟨"CalledSquareModel", "reads", "()Z"⟩, 14), (⟨"CalledSquareModel", "blanks", "()V"⟩, 14), (⟨"CalledSquareModel", "byteAt", "(I)I"⟩, 14), (⟨"CalledSquareModel", "readsOrder", "()Z"⟩, 14)]
theorem lw_r4 : ∀ q ∈ lw_privs_4, lw_okq q := List.forall_mem_cons.mpr ⟨lw_p48, List.forall_mem_cons.mpr ⟨lw_p49, List.forall_mem_cons.mpr ⟨lw_p50, List.forall_mem_cons.mpr ⟨lw_p51, List.forall_mem_cons.mpr ⟨lw_p52, List.forall_mem_cons.mpr ⟨lw_p53, List.forall_mem_cons.mpr ⟨lw_p54, List.forall_mem_cons.mpr ⟨lw_p55, List.forall_mem_cons.mpr ⟨lw_p56, List.forall_mem_cons.mpr ⟨lw_p57, List.forall_mem_cons.mpr ⟨lw_p58, List.forall_mem_cons.mpr ⟨lw_p59, List.forall_mem_cons.mpr ⟨lw_p60, List.forall_mem_cons.mpr ⟨lw_p61, List.forall_mem_cons.mpr ⟨lw_p62, List.forall_mem_cons.mpr ⟨lw_p63, fun _ h => absurd h List.not_mem_nil⟩⟩⟩⟩⟩⟩⟩⟩⟩⟩⟩⟩⟩⟩⟩⟩
theorem lw_p64 : lw_okq (⟨"CalledSquareModel", "fails", "(I)Z"⟩, 14) := ⟨⟨by decide +kernel, by decide +kernel⟩, List.mem_of_getElem? (i := 662) (by decide +kernel), List.mem_of_getElem? (i := 975) (by decide +kernel), List.mem_of_getElem? (i := 976) (by decide +kernel)⟩
theorem lw_p65 : lw_okq (⟨"CalledSquareModel", "readsCycles", "(I)Z"⟩, 14) := ⟨⟨by decide +kernel, by decide +kernel⟩, List.mem_of_getElem? (i := 662) (by decide +kernel), List.mem_of_getElem? (i := 979) (by decide +kernel), List.mem_of_getElem? (i := 980) (by decide +kernel)⟩
theorem lw_p66 : lw_okq (⟨"CalledSquareModel", "readsCycle", "(I)Z"⟩, 14) := ⟨⟨by decide +kernel, by decide +kernel⟩, List.mem_of_getElem? (i := 662) (by decide +kernel), List.mem_of_getElem? (i := 983) (by decide +kernel), List.mem_of_getElem? (i := 984) (by decide +kernel)⟩
theorem lw_p67 : lw_okq (⟨"CalledSquareModel", "readsNumber", "()Z"⟩, 14) := ⟨⟨by decide +kernel, by decide +kernel⟩, List.mem_of_getElem? (i := 662) (by decide +kernel), List.mem_of_getElem? (i := 987) (by decide +kernel), List.mem_of_getElem? (i := 988) (by decide +kernel)⟩
theorem lw_p68 : lw_okq (⟨"CalledSquareModel", "doesOne", "(I)I"⟩, 14) := ⟨⟨by decide +kernel, by decide +kernel⟩, List.mem_of_getElem? (i := 662) (by decide +kernel), List.mem_of_getElem? (i := 994) (by decide +kernel), List.mem_of_getElem? (i := 995) (by decide +kernel)⟩
theorem lw_p69 : lw_okq (⟨"CalledSquareModel", "toldOf", "(I)I"⟩, 14) := ⟨⟨by decide +kernel, by decide +kernel⟩, List.mem_of_getElem? (i := 662) (by decide +kernel), List.mem_of_getElem? (i := 1002) (by decide +kernel), List.mem_of_getElem? (i := 1003) (by decide +kernel)⟩
def lw_privs_5 : List (MethodName × Nat) := [(⟨"CalledSquareModel", "fails", "(I)Z"⟩, 14), (⟨"CalledSquareModel", "readsCycles", "(I)Z"⟩, 14), (⟨"CalledSquareModel", "readsCycle", "(I)Z"⟩, 14), (⟨"CalledSquareModel", "readsNumber", "()Z"⟩, 14), (⟨"CalledSquareModel", "doesOne", "(I)I"⟩, 14), (⟨"CalledSquareModel", "toldOf", "(I)I"⟩, 14)]
theorem lw_r5 : ∀ q ∈ lw_privs_5, lw_okq q := List.forall_mem_cons.mpr ⟨lw_p64, List.forall_mem_cons.mpr ⟨lw_p65, List.forall_mem_cons.mpr ⟨lw_p66, List.forall_mem_cons.mpr ⟨lw_p67, List.forall_mem_cons.mpr ⟨lw_p68, List.forall_mem_cons.mpr ⟨lw_p69, fun _ h => absurd h List.not_mem_nil⟩⟩⟩⟩⟩⟩
def lw_privs : List (MethodName × Nat) := lw_privs_1 ++ (lw_privs_2 ++ (lw_privs_3 ++ (lw_privs_4 ++ (lw_privs_5))))
def lw_tbl : List Cond := k2_sels lw_privs ++ tables_1
theorem lw_privs_ok : ∀ q ∈ lw_privs, lw_okq q := by
  show ∀ q ∈ lw_privs_1 ++ (lw_privs_2 ++ (lw_privs_3 ++ (lw_privs_4 ++ (lw_privs_5)))), lw_okq q
  exact List.forall_mem_append.mpr ⟨lw_r1, List.forall_mem_append.mpr ⟨lw_r2, List.forall_mem_append.mpr ⟨lw_r3, List.forall_mem_append.mpr ⟨lw_r4, lw_r5⟩⟩⟩⟩
end
section
def RX0 : String := "CalledSquare$Call"
def TX0 : u_T := fun k => match k with
  | 0 => ("CalledSquare$Call", "goes", "[I", true)
  | 1 => ("CalledSquare$Call", "turn", "[I", true)
  | _ => ("CalledSquare$Call", "want", "[I", true)
def tyX0 : Nat → FieldType := fun k => match k with
  | 0 => .array .int
  | 1 => .array .int
  | _ => .array .int
abbrev wsX00 : List Cond := u_ws RX0 TX0 3
theorem nmX0 : ∀ a, a < 3 → ∀ b, b < 3 → a ≠ b → (TX0 a).2.1 ≠ (TX0 b).2.1 := by decide +kernel
theorem tyX0_ok : ∀ k, k < 3 → parseFieldDescriptor (TX0 k).2.2.1 = some (tyX0 k) := by decide +kernel
abbrev cX0_init : ByteArray := prog_2_method_1_code
def yX0_init : MethodName := ⟨RX0, "<init>", "()V"⟩
abbrev cX0_reset : ByteArray := prog_2_method_2_code
def yX0_reset : MethodName := ⟨RX0, "reset", "()V"⟩
abbrev cX0_copyFrom : ByteArray := prog_2_method_3_code
def yX0_copyFrom : MethodName := ⟨RX0, "copyFrom", "(LCalledSquare$Call;)V"⟩
abbrev cX0_canBeJoinedWith : ByteArray := prog_2_method_4_code
def yX0_canBeJoinedWith : MethodName := ⟨RX0, "canBeJoinedWith", "(LCalledSquare$Call;)Z"⟩
abbrev cX0_becomeJoined : ByteArray := prog_2_method_5_code
def yX0_becomeJoined : MethodName := ⟨RX0, "becomeJoined", "(LCalledSquare$Call;LCalledSquare$Call;)V"⟩
abbrev cX0_becomeTurnedBack : ByteArray := prog_2_method_6_code
def yX0_becomeTurnedBack : MethodName := ⟨RX0, "becomeTurnedBack", "(LCalledSquare$Call;)V"⟩
abbrev cX0_placeBehind : ByteArray := prog_2_method_7_code
def yX0_placeBehind : MethodName := ⟨RX0, "placeBehind", "(I)I"⟩
abbrev cX0_spotsThatWant : ByteArray := prog_2_method_8_code
def yX0_spotsThatWant : MethodName := ⟨RX0, "spotsThatWant", "(I)I"⟩
abbrev cX0_fitsOn : ByteArray := prog_2_method_9_code
def yX0_fitsOn : MethodName := ⟨RX0, "fitsOn", "(I)Z"⟩
abbrev cX0_spotsThatMove : ByteArray := prog_2_method_10_code
def yX0_spotsThatMove : MethodName := ⟨RX0, "spotsThatMove", "()I"⟩
abbrev cX0_spotsWithWant : ByteArray := prog_2_method_11_code
def yX0_spotsWithWant : MethodName := ⟨RX0, "spotsWithWant", "()I"⟩
abbrev cX0_round : ByteArray := prog_2_method_12_code
def yX0_round : MethodName := ⟨RX0, "round", "()I"⟩
abbrev cX0_timesToFaceAhead : ByteArray := prog_2_method_13_code
def yX0_timesToFaceAhead : MethodName := ⟨RX0, "timesToFaceAhead", "(I)I"⟩
abbrev cX0_leastCommonMultiple : ByteArray := prog_2_method_14_code
def yX0_leastCommonMultiple : MethodName := ⟨RX0, "leastCommonMultiple", "(II)I"⟩
def RX1 : String := "CalledSquare$History"
def TX1 : u_T := fun k => match k with
  | 0 => ("CalledSquare$History", "slot", "[LCalledSquare$Square;", true)
  | 1 => ("CalledSquare$History", "next", "I", false)
  | _ => ("CalledSquare$History", "kept", "I", false)
def tyX1 : Nat → FieldType := fun k => match k with
  | 0 => .array (.object "CalledSquare$Square")
  | 1 => .int
  | _ => .int
abbrev wsX10 : List Cond := u_ws RX1 TX1 3
theorem nmX1 : ∀ a, a < 3 → ∀ b, b < 3 → a ≠ b → (TX1 a).2.1 ≠ (TX1 b).2.1 := by decide +kernel
theorem tyX1_ok : ∀ k, k < 3 → parseFieldDescriptor (TX1 k).2.2.1 = some (tyX1 k) := by decide +kernel
abbrev cX1_init : ByteArray := prog_3_method_1_code
def yX1_init : MethodName := ⟨RX1, "<init>", "()V"⟩
abbrev cX1_prepare : ByteArray := prog_3_method_2_code
def yX1_prepare : MethodName := ⟨RX1, "prepare", "(LCalledSquare$Square;)V"⟩
abbrev cX1_undo : ByteArray := prog_3_method_3_code
def yX1_undo : MethodName := ⟨RX1, "undo", "(LCalledSquare$Square;)V"⟩
abbrev cX1_confirm : ByteArray := prog_3_method_4_code
def yX1_confirm : MethodName := ⟨RX1, "confirm", "()V"⟩
abbrev cX1_takeBack : ByteArray := prog_3_method_5_code
def yX1_takeBack : MethodName := ⟨RX1, "takeBack", "(LCalledSquare$Square;)I"⟩
def RX2 : String := "CalledSquare$Search"
def TX2 : u_T := fun k => match k with
  | 0 => ("CalledSquare$Search", "behind", "[[I", true)
  | 1 => ("CalledSquare$Search", "wantedHeld", "[I", true)
  | 2 => ("CalledSquare$Search", "wantedFree", "[I", true)
  | 3 => ("CalledSquare$Search", "places", "[[I", true)
  | 4 => ("CalledSquare$Search", "held", "[I", true)
  | 5 => ("CalledSquare$Search", "homePlace", "[I", true)
  | 6 => ("CalledSquare$Search", "row", "[I", true)
  | 7 => ("CalledSquare$Search", "used", "[I", true)
  | 8 => ("CalledSquare$Search", "dancers", "I", false)
  | 9 => ("CalledSquare$Search", "calls", "I", false)
  | 10 => ("CalledSquare$Search", "goal", "I", false)
  | 11 => ("CalledSquare$Search", "length", "I", false)
  | 12 => ("CalledSquare$Search", "mostOfEach", "I", false)
  | 13 => ("CalledSquare$Search", "mayRepeat", "Z", false)
  | _ => ("CalledSquare$Search", "enough", "I", false)
def tyX2 : Nat → FieldType := fun k => match k with
  | 0 => .array (.array .int)
  | 1 => .array .int
  | 2 => .array .int
  | 3 => .array (.array .int)
  | 4 => .array .int
  | 5 => .array .int
  | 6 => .array .int
  | 7 => .array .int
  | 8 => .int
  | 9 => .int
  | 10 => .int
  | 11 => .int
  | 12 => .int
  | 13 => .boolean
  | _ => .int
abbrev wsX20 : List Cond := u_ws RX2 TX2 15
theorem nmX2 : ∀ a, a < 15 → ∀ b, b < 15 → a ≠ b → (TX2 a).2.1 ≠ (TX2 b).2.1 := by decide +kernel
theorem tyX2_ok : ∀ k, k < 15 → parseFieldDescriptor (TX2 k).2.2.1 = some (tyX2 k) := by decide +kernel
abbrev cX2_init : ByteArray := prog_4_method_1_code
def yX2_init : MethodName := ⟨RX2, "<init>", "()V"⟩
abbrev cX2_shortest : ByteArray := prog_4_method_2_code
def yX2_shortest : MethodName := ⟨RX2, "shortest", "(LCalledSquare$Square;III)I"⟩
abbrev cX2_howMany : ByteArray := prog_4_method_3_code
def yX2_howMany : MethodName := ⟨RX2, "howMany", "(LCalledSquare$Square;II)I"⟩
abbrev cX2_callOfRow : ByteArray := prog_4_method_4_code
def yX2_callOfRow : MethodName := ⟨RX2, "callOfRow", "(I)I"⟩
abbrev cX2_start : ByteArray := prog_4_method_5_code
def yX2_start : MethodName := ⟨RX2, "start", "(LCalledSquare$Square;I)V"⟩
abbrev cX2_rowsOfLength : ByteArray := prog_4_method_6_code
def yX2_rowsOfLength : MethodName := ⟨RX2, "rowsOfLength", "(I)I"⟩
abbrev cX2_walk : ByteArray := prog_4_method_7_code
def yX2_walk : MethodName := ⟨RX2, "walk", "(LCalledSquare$Search;I)I"⟩
abbrev cX2_mayCome : ByteArray := prog_4_method_8_code
def yX2_mayCome : MethodName := ⟨RX2, "mayCome", "(II)Z"⟩
abbrev cX2_step : ByteArray := prog_4_method_9_code
def yX2_step : MethodName := ⟨RX2, "step", "(II)V"⟩
abbrev cX2_isGoalBehind : ByteArray := prog_4_method_10_code
def yX2_isGoalBehind : MethodName := ⟨RX2, "isGoalBehind", "(II)Z"⟩
def RX3 : String := "CalledSquare$Square"
def TX3 : u_T := fun k => match k with
  | 0 => ("CalledSquare$Square", "dancers", "I", false)
  | 1 => ("CalledSquare$Square", "place", "[I", true)
  | 2 => ("CalledSquare$Square", "homePlace", "[I", true)
  | 3 => ("CalledSquare$Square", "calls", "I", false)
  | 4 => ("CalledSquare$Square", "call", "[LCalledSquare$Call;", true)
  | 5 => ("CalledSquare$Square", "planLength", "I", false)
  | 6 => ("CalledSquare$Square", "plan", "[I", true)
  | 7 => ("CalledSquare$Square", "behindPlan", "[I", true)
  | _ => ("CalledSquare$Square", "given", "I", false)
def tyX3 : Nat → FieldType := fun k => match k with
  | 0 => .int
  | 1 => .array .int
  | 2 => .array .int
  | 3 => .int
  | 4 => .array (.object "CalledSquare$Call")
  | 5 => .int
  | 6 => .array .int
  | 7 => .array .int
  | _ => .int
abbrev wsX30 : List Cond := u_ws RX3 TX3 9
theorem nmX3 : ∀ a, a < 9 → ∀ b, b < 9 → a ≠ b → (TX3 a).2.1 ≠ (TX3 b).2.1 := by decide +kernel
theorem tyX3_ok : ∀ k, k < 9 → parseFieldDescriptor (TX3 k).2.2.1 = some (tyX3 k) := by decide +kernel
abbrev cX3_init : ByteArray := prog_5_method_1_code
def yX3_init : MethodName := ⟨RX3, "<init>", "()V"⟩
abbrev cX3_copyFrom : ByteArray := prog_5_method_2_code
def yX3_copyFrom : MethodName := ⟨RX3, "copyFrom", "(LCalledSquare$Square;)V"⟩
abbrev cX3_addDancer : ByteArray := prog_5_method_3_code
def yX3_addDancer : MethodName := ⟨RX3, "addDancer", "(II)I"⟩
abbrev cX3_addCall : ByteArray := prog_5_method_4_code
def yX3_addCall : MethodName := ⟨RX3, "addCall", "()I"⟩
abbrev cX3_addCallThatGoes : ByteArray := prog_5_method_5_code
def yX3_addCallThatGoes : MethodName := ⟨RX3, "addCallThatGoes", "([I)I"⟩
abbrev cX3_exchangeGoals : ByteArray := prog_5_method_6_code
def yX3_exchangeGoals : MethodName := ⟨RX3, "exchangeGoals", "(III)I"⟩
abbrev cX3_setTurn : ByteArray := prog_5_method_7_code
def yX3_setTurn : MethodName := ⟨RX3, "setTurn", "(III)I"⟩
abbrev cX3_setWant : ByteArray := prog_5_method_8_code
def yX3_setWant : MethodName := ⟨RX3, "setWant", "(III)I"⟩
abbrev cX3_addJoined : ByteArray := prog_5_method_9_code
def yX3_addJoined : MethodName := ⟨RX3, "addJoined", "(II)I"⟩
abbrev cX3_addTurnedBack : ByteArray := prog_5_method_10_code
def yX3_addTurnedBack : MethodName := ⟨RX3, "addTurnedBack", "(I)I"⟩
abbrev cX3_give : ByteArray := prog_5_method_11_code
def yX3_give : MethodName := ⟨RX3, "give", "(I)I"⟩
abbrev cX3_sendHome : ByteArray := prog_5_method_12_code
def yX3_sendHome : MethodName := ⟨RX3, "sendHome", "()I"⟩
abbrev cX3_addToPlan : ByteArray := prog_5_method_13_code
def yX3_addToPlan : MethodName := ⟨RX3, "addToPlan", "(I)I"⟩
abbrev cX3_emptyPlan : ByteArray := prog_5_method_14_code
def yX3_emptyPlan : MethodName := ⟨RX3, "emptyPlan", "()I"⟩
abbrev cX3_followPlan : ByteArray := prog_5_method_15_code
def yX3_followPlan : MethodName := ⟨RX3, "followPlan", "()I"⟩
abbrev cX3_askPlanned : ByteArray := prog_5_method_16_code
def yX3_askPlanned : MethodName := ⟨RX3, "askPlanned", "(II)I"⟩
abbrev cX3_askDancer : ByteArray := prog_5_method_17_code
def yX3_askDancer : MethodName := ⟨RX3, "askDancer", "(II)I"⟩
abbrev cX3_askSpotOfCall : ByteArray := prog_5_method_18_code
def yX3_askSpotOfCall : MethodName := ⟨RX3, "askSpotOfCall", "(III)I"⟩
abbrev cX3_askCall : ByteArray := prog_5_method_19_code
def yX3_askCall : MethodName := ⟨RX3, "askCall", "(II)I"⟩
abbrev cX3_askCount : ByteArray := prog_5_method_20_code
def yX3_askCount : MethodName := ⟨RX3, "askCount", "(I)I"⟩
abbrev cX3_whoIsOn : ByteArray := prog_5_method_21_code
def yX3_whoIsOn : MethodName := ⟨RX3, "whoIsOn", "(I)I"⟩
abbrev cX3_isHome : ByteArray := prog_5_method_22_code
def yX3_isHome : MethodName := ⟨RX3, "isHome", "(I)Z"⟩
abbrev cX3_isSpotOfCall : ByteArray := prog_5_method_23_code
def yX3_isSpotOfCall : MethodName := ⟨RX3, "isSpotOfCall", "(II)Z"⟩
abbrev cX3_move : ByteArray := prog_5_method_24_code
def yX3_move : MethodName := ⟨RX3, "move", "([ILCalledSquare$Call;)I"⟩
abbrev cX3_partnerOf : ByteArray := prog_5_method_25_code
def yX3_partnerOf : MethodName := ⟨RX3, "partnerOf", "(I)I"⟩
abbrev cX3_isPaired : ByteArray := prog_5_method_26_code
def yX3_isPaired : MethodName := ⟨RX3, "isPaired", "(I)Z"⟩
abbrev cX3_howManyAreHome : ByteArray := prog_5_method_27_code
def yX3_howManyAreHome : MethodName := ⟨RX3, "howManyAreHome", "()I"⟩
abbrev cX3_howManyPartnersArePaired : ByteArray := prog_5_method_28_code
def yX3_howManyPartnersArePaired : MethodName := ⟨RX3, "howManyPartnersArePaired", "()I"⟩
abbrev cX3_callsThatFit : ByteArray := prog_5_method_29_code
def yX3_callsThatFit : MethodName := ⟨RX3, "callsThatFit", "()I"⟩
def RX4 : String := "CalledSquare$Text"
def TX4 : u_T := fun k => match k with
  | 0 => ("CalledSquare$Text", "bytes", "[I", true)
  | 1 => ("CalledSquare$Text", "length", "I", false)
  | 2 => ("CalledSquare$Text", "reader", "I", false)
  | 3 => ("CalledSquare$Text", "fault", "I", false)
  | 4 => ("CalledSquare$Text", "kind", "I", false)
  | 5 => ("CalledSquare$Text", "numbers", "[I", true)
  | 6 => ("CalledSquare$Text", "goes", "[I", true)
  | _ => ("CalledSquare$Text", "spotsTold", "I", false)
def tyX4 : Nat → FieldType := fun k => match k with
  | 0 => .array .int
  | 1 => .int
  | 2 => .int
  | 3 => .int
  | 4 => .int
  | 5 => .array .int
  | 6 => .array .int
  | _ => .int
abbrev wsX40 : List Cond := u_ws RX4 TX4 8
theorem nmX4 : ∀ a, a < 8 → ∀ b, b < 8 → a ≠ b → (TX4 a).2.1 ≠ (TX4 b).2.1 := by decide +kernel
theorem tyX4_ok : ∀ k, k < 8 → parseFieldDescriptor (TX4 k).2.2.1 = some (tyX4 k) := by decide +kernel
abbrev cX4_init : ByteArray := prog_6_method_1_code
def yX4_init : MethodName := ⟨RX4, "<init>", "()V"⟩
abbrev cX4_append : ByteArray := prog_6_method_2_code
def yX4_append : MethodName := ⟨RX4, "append", "(I)I"⟩
abbrev cX4_empty : ByteArray := prog_6_method_3_code
def yX4_empty : MethodName := ⟨RX4, "empty", "()I"⟩
abbrev cX4_restart : ByteArray := prog_6_method_4_code
def yX4_restart : MethodName := ⟨RX4, "restart", "()V"⟩
abbrev cX4_hasMore : ByteArray := prog_6_method_5_code
def yX4_hasMore : MethodName := ⟨RX4, "hasMore", "()Z"⟩
abbrev cX4_firstFault : ByteArray := prog_6_method_6_code
def yX4_firstFault : MethodName := ⟨RX4, "firstFault", "()I"⟩
abbrev cX4_readOrder : ByteArray := prog_6_method_7_code
def yX4_readOrder : MethodName := ⟨RX4, "readOrder", "()Z"⟩
abbrev cX4_numbersBehind : ByteArray := prog_6_method_8_code
def yX4_numbersBehind : MethodName := ⟨RX4, "numbersBehind", "(I)I"⟩
abbrev cX4_readNumbers : ByteArray := prog_6_method_9_code
def yX4_readNumbers : MethodName := ⟨RX4, "readNumbers", "(I)Z"⟩
abbrev cX4_readCycles : ByteArray := prog_6_method_10_code
def yX4_readCycles : MethodName := ⟨RX4, "readCycles", "()Z"⟩
abbrev cX4_readCycle : ByteArray := prog_6_method_11_code
def yX4_readCycle : MethodName := ⟨RX4, "readCycle", "()Z"⟩
abbrev cX4_takesSpot : ByteArray := prog_6_method_12_code
def yX4_takesSpot : MethodName := ⟨RX4, "takesSpot", "(II)Z"⟩
abbrev cX4_readNumber : ByteArray := prog_6_method_13_code
def yX4_readNumber : MethodName := ⟨RX4, "readNumber", "()I"⟩
abbrev cX4_isFigure : ByteArray := prog_6_method_14_code
def yX4_isFigure : MethodName := ⟨RX4, "isFigure", "()Z"⟩
abbrev cX4_nextSign : ByteArray := prog_6_method_15_code
def yX4_nextSign : MethodName := ⟨RX4, "nextSign", "()I"⟩
abbrev cX4_skipBlanks : ByteArray := prog_6_method_16_code
def yX4_skipBlanks : MethodName := ⟨RX4, "skipBlanks", "()V"⟩
abbrev cX4_fails : ByteArray := prog_6_method_17_code
def yX4_fails : MethodName := ⟨RX4, "fails", "(I)Z"⟩
def RX5 : String := "CalledSquare"
def TX5 : u_T := fun k => match k with
  | 0 => ("CalledSquare", "now", "LCalledSquare$Square;", true)
  | 1 => ("CalledSquare", "history", "LCalledSquare$History;", true)
  | 2 => ("CalledSquare", "text", "LCalledSquare$Text;", true)
  | 3 => ("CalledSquare", "search", "LCalledSquare$Search;", true)
  | _ => ("CalledSquare", "refused", "[I", true)
def tyX5 : Nat → FieldType := fun k => match k with
  | 0 => .object "CalledSquare$Square"
  | 1 => .object "CalledSquare$History"
  | 2 => .object "CalledSquare$Text"
  | 3 => .object "CalledSquare$Search"
  | _ => .array .int
abbrev wsX50 : List Cond := u_ws RX5 TX5 5
theorem nmX5 : ∀ a, a < 5 → ∀ b, b < 5 → a ≠ b → (TX5 a).2.1 ≠ (TX5 b).2.1 := by decide +kernel
theorem tyX5_ok : ∀ k, k < 5 → parseFieldDescriptor (TX5 k).2.2.1 = some (tyX5 k) := by decide +kernel
abbrev cX5_init : ByteArray := prog_1_method_1_code
def yX5_init : MethodName := ⟨RX5, "<init>", "()V"⟩
abbrev cX5_dancer : ByteArray := prog_1_method_2_code
def yX5_dancer : MethodName := ⟨RX5, "dancer", "(II)I"⟩
abbrev cX5_call : ByteArray := prog_1_method_3_code
def yX5_call : MethodName := ⟨RX5, "call", "()I"⟩
abbrev cX5_exchanges : ByteArray := prog_1_method_4_code
def yX5_exchanges : MethodName := ⟨RX5, "exchanges", "(III)I"⟩
abbrev cX5_turns : ByteArray := prog_1_method_5_code
def yX5_turns : MethodName := ⟨RX5, "turns", "(III)I"⟩
abbrev cX5_wants : ByteArray := prog_1_method_6_code
def yX5_wants : MethodName := ⟨RX5, "wants", "(III)I"⟩
abbrev cX5_joins : ByteArray := prog_1_method_7_code
def yX5_joins : MethodName := ⟨RX5, "joins", "(II)I"⟩
abbrev cX5_backwards : ByteArray := prog_1_method_8_code
def yX5_backwards : MethodName := ⟨RX5, "backwards", "(I)I"⟩
abbrev cX5_gives : ByteArray := prog_1_method_9_code
def yX5_gives : MethodName := ⟨RX5, "gives", "(I)I"⟩
abbrev cX5_home : ByteArray := prog_1_method_10_code
def yX5_home : MethodName := ⟨RX5, "home", "()I"⟩
abbrev cX5_of : ByteArray := prog_1_method_11_code
def yX5_of : MethodName := ⟨RX5, "of", "(II)I"⟩
abbrev cX5_on : ByteArray := prog_1_method_12_code
def yX5_on : MethodName := ⟨RX5, "on", "(I)I"⟩
abbrev cX5_at : ByteArray := prog_1_method_13_code
def yX5_at : MethodName := ⟨RX5, "at", "(III)I"⟩
abbrev cX5_tells : ByteArray := prog_1_method_14_code
def yX5_tells : MethodName := ⟨RX5, "tells", "(II)I"⟩
abbrev cX5_finds : ByteArray := prog_1_method_15_code
def yX5_finds : MethodName := ⟨RX5, "finds", "(III)I"⟩
abbrev cX5_found : ByteArray := prog_1_method_16_code
def yX5_found : MethodName := ⟨RX5, "found", "(IIII)I"⟩
abbrev cX5_rows : ByteArray := prog_1_method_17_code
def yX5_rows : MethodName := ⟨RX5, "rows", "(II)I"⟩
abbrev cX5_plans : ByteArray := prog_1_method_18_code
def yX5_plans : MethodName := ⟨RX5, "plans", "(I)I"⟩
abbrev cX5_scraps : ByteArray := prog_1_method_19_code
def yX5_scraps : MethodName := ⟨RX5, "scraps", "()I"⟩
abbrev cX5_judges : ByteArray := prog_1_method_20_code
def yX5_judges : MethodName := ⟨RX5, "judges", "()I"⟩
abbrev cX5_planned : ByteArray := prog_1_method_21_code
def yX5_planned : MethodName := ⟨RX5, "planned", "(II)I"⟩
abbrev cX5_count : ByteArray := prog_1_method_22_code
def yX5_count : MethodName := ⟨RX5, "count", "(I)I"⟩
abbrev cX5_type : ByteArray := prog_1_method_23_code
def yX5_type : MethodName := ⟨RX5, "type", "(I)I"⟩
abbrev cX5_clear : ByteArray := prog_1_method_24_code
def yX5_clear : MethodName := ⟨RX5, "clear", "()I"⟩
abbrev cX5_does : ByteArray := prog_1_method_25_code
def yX5_does : MethodName := ⟨RX5, "does", "()I"⟩
abbrev cX5_back : ByteArray := prog_1_method_26_code
def yX5_back : MethodName := ⟨RX5, "back", "()I"⟩
abbrev cX5_told : ByteArray := prog_1_method_27_code
def yX5_told : MethodName := ⟨RX5, "told", "(I)I"⟩
abbrev cX5_digest : ByteArray := prog_1_method_28_code
def yX5_digest : MethodName := ⟨RX5, "digest", "()J"⟩
abbrev cX5_mixedWithCall : ByteArray := prog_1_method_29_code
def yX5_mixedWithCall : MethodName := ⟨RX5, "mixedWithCall", "(JI)J"⟩
abbrev cX5_mixed : ByteArray := prog_1_method_30_code
def yX5_mixed : MethodName := ⟨RX5, "mixed", "(JI)J"⟩
abbrev cX5_noted : ByteArray := prog_1_method_31_code
def yX5_noted : MethodName := ⟨RX5, "noted", "(I)I"⟩
abbrev cX5_settled : ByteArray := prog_1_method_32_code
def yX5_settled : MethodName := ⟨RX5, "settled", "(I)I"⟩
abbrev cX5_doOrder : ByteArray := prog_1_method_33_code
def yX5_doOrder : MethodName := ⟨RX5, "doOrder", "()I"⟩
abbrev cX5_isBelow : ByteArray := prog_1_method_34_code
def yX5_isBelow : MethodName := ⟨RX5, "isBelow", "(II)Z"⟩
abbrev cX5_isSearch : ByteArray := prog_1_method_35_code
def yX5_isSearch : MethodName := ⟨RX5, "isSearch", "(III)Z"⟩
abbrev cX5_arePaired : ByteArray := prog_1_method_36_code
def yX5_arePaired : MethodName := ⟨RX5, "arePaired", "(II)Z"⟩
abbrev cX5_heldSpots : ByteArray := prog_1_method_37_code
def yX5_heldSpots : MethodName := ⟨RX5, "heldSpots", "([II)I"⟩
def RX6 : String := "CalledSquareModel"
def TX6 : u_T := fun k => match k with
  | 0 => ("CalledSquareModel", "w", "[I", true)
  | 1 => ("CalledSquareModel", "was", "[I", true)
  | 2 => ("CalledSquareModel", "states", "I", false)
  | 3 => ("CalledSquareModel", "trial", "[I", true)
  | 4 => ("CalledSquareModel", "refusals", "[I", true)
  | 5 => ("CalledSquareModel", "length", "I", false)
  | 6 => ("CalledSquareModel", "text", "[I", true)
  | 7 => ("CalledSquareModel", "stood", "[I", true)
  | 8 => ("CalledSquareModel", "row", "[I", true)
  | 9 => ("CalledSquareModel", "orders", "[I", true)
  | 10 => ("CalledSquareModel", "ordered", "I", false)
  | 11 => ("CalledSquareModel", "at", "I", false)
  | 12 => ("CalledSquareModel", "fault", "I", false)
  | _ => ("CalledSquareModel", "value", "I", false)
def tyX6 : Nat → FieldType := fun k => match k with
  | 0 => .array .int
  | 1 => .array .int
  | 2 => .int
  | 3 => .array .int
  | 4 => .array .int
  | 5 => .int
  | 6 => .array .int
  | 7 => .array .int
  | 8 => .array .int
  | 9 => .array .int
  | 10 => .int
  | 11 => .int
  | 12 => .int
  | _ => .int
abbrev wsX60 : List Cond := u_ws RX6 TX6 14
theorem nmX6 : ∀ a, a < 14 → ∀ b, b < 14 → a ≠ b → (TX6 a).2.1 ≠ (TX6 b).2.1 := by decide +kernel
theorem tyX6_ok : ∀ k, k < 14 → parseFieldDescriptor (TX6 k).2.2.1 = some (tyX6 k) := by decide +kernel
abbrev cX6_init : ByteArray := prog_8_method_1_code
def yX6_init : MethodName := ⟨RX6, "<init>", "()V"⟩
abbrev cX6_isIn : ByteArray := prog_8_method_2_code
def yX6_isIn : MethodName := ⟨RX6, "isIn", "(III)Z"⟩
abbrev cX6_refused : ByteArray := prog_8_method_3_code
def yX6_refused : MethodName := ⟨RX6, "refused", "(I)I"⟩
abbrev cX6_counted : ByteArray := prog_8_method_4_code
def yX6_counted : MethodName := ⟨RX6, "counted", "(I)I"⟩
abbrev cX6_keeps : ByteArray := prog_8_method_5_code
def yX6_keeps : MethodName := ⟨RX6, "keeps", "()V"⟩
abbrev cX6_done : ByteArray := prog_8_method_6_code
def yX6_done : MethodName := ⟨RX6, "done", "(I)I"⟩
abbrev cX6_notes : ByteArray := prog_8_method_7_code
def yX6_notes : MethodName := ⟨RX6, "notes", "()V"⟩
abbrev cX6_place : ByteArray := prog_8_method_8_code
def yX6_place : MethodName := ⟨RX6, "place", "(III)I"⟩
abbrev cX6_isDancer : ByteArray := prog_8_method_9_code
def yX6_isDancer : MethodName := ⟨RX6, "isDancer", "(I)Z"⟩
abbrev cX6_isCall : ByteArray := prog_8_method_10_code
def yX6_isCall : MethodName := ⟨RX6, "isCall", "(I)Z"⟩
abbrev cX6_isSpot : ByteArray := prog_8_method_11_code
def yX6_isSpot : MethodName := ⟨RX6, "isSpot", "(I)Z"⟩
abbrev cX6_who : ByteArray := prog_8_method_12_code
def yX6_who : MethodName := ⟨RX6, "who", "(I)I"⟩
abbrev cX6_comes : ByteArray := prog_8_method_13_code
def yX6_comes : MethodName := ⟨RX6, "comes", "(II)I"⟩
abbrev cX6_adds : ByteArray := prog_8_method_14_code
def yX6_adds : MethodName := ⟨RX6, "adds", "()I"⟩
abbrev cX6_setsAt : ByteArray := prog_8_method_15_code
def yX6_setsAt : MethodName := ⟨RX6, "setsAt", "(IIII)I"⟩
abbrev cX6_fits : ByteArray := prog_8_method_16_code
def yX6_fits : MethodName := ⟨RX6, "fits", "(I)Z"⟩
abbrev cX6_moves : ByteArray := prog_8_method_17_code
def yX6_moves : MethodName := ⟨RX6, "moves", "(I)I"⟩
abbrev cX6_given : ByteArray := prog_8_method_18_code
def yX6_given : MethodName := ⟨RX6, "given", "(I)I"⟩
abbrev cX6_plansOn : ByteArray := prog_8_method_19_code
def yX6_plansOn : MethodName := ⟨RX6, "plansOn", "(I)I"⟩
abbrev cX6_dancer : ByteArray := prog_8_method_20_code
def yX6_dancer : MethodName := ⟨RX6, "dancer", "(II)I"⟩
abbrev cX6_call : ByteArray := prog_8_method_21_code
def yX6_call : MethodName := ⟨RX6, "call", "()I"⟩
abbrev cX6_exchanges : ByteArray := prog_8_method_22_code
def yX6_exchanges : MethodName := ⟨RX6, "exchanges", "(III)I"⟩
abbrev cX6_turns : ByteArray := prog_8_method_23_code
def yX6_turns : MethodName := ⟨RX6, "turns", "(III)I"⟩
abbrev cX6_wants : ByteArray := prog_8_method_24_code
def yX6_wants : MethodName := ⟨RX6, "wants", "(III)I"⟩
abbrev cX6_joins : ByteArray := prog_8_method_25_code
def yX6_joins : MethodName := ⟨RX6, "joins", "(II)I"⟩
abbrev cX6_backwards : ByteArray := prog_8_method_26_code
def yX6_backwards : MethodName := ⟨RX6, "backwards", "(I)I"⟩
abbrev cX6_gives : ByteArray := prog_8_method_27_code
def yX6_gives : MethodName := ⟨RX6, "gives", "(I)I"⟩
abbrev cX6_home : ByteArray := prog_8_method_28_code
def yX6_home : MethodName := ⟨RX6, "home", "()I"⟩
abbrev cX6_plans : ByteArray := prog_8_method_29_code
def yX6_plans : MethodName := ⟨RX6, "plans", "(I)I"⟩
abbrev cX6_scraps : ByteArray := prog_8_method_30_code
def yX6_scraps : MethodName := ⟨RX6, "scraps", "()I"⟩
abbrev cX6_back : ByteArray := prog_8_method_31_code
def yX6_back : MethodName := ⟨RX6, "back", "()I"⟩
abbrev cX6_isHome : ByteArray := prog_8_method_32_code
def yX6_isHome : MethodName := ⟨RX6, "isHome", "(I)Z"⟩
abbrev cX6_atHome : ByteArray := prog_8_method_33_code
def yX6_atHome : MethodName := ⟨RX6, "atHome", "()I"⟩
abbrev cX6_partner : ByteArray := prog_8_method_34_code
def yX6_partner : MethodName := ⟨RX6, "partner", "(I)I"⟩
abbrev cX6_arePaired : ByteArray := prog_8_method_35_code
def yX6_arePaired : MethodName := ⟨RX6, "arePaired", "(I)Z"⟩
abbrev cX6_pairs : ByteArray := prog_8_method_36_code
def yX6_pairs : MethodName := ⟨RX6, "pairs", "()I"⟩
abbrev cX6_ofDancer : ByteArray := prog_8_method_37_code
def yX6_ofDancer : MethodName := ⟨RX6, "ofDancer", "(II)I"⟩
abbrev cX6_of : ByteArray := prog_8_method_38_code
def yX6_of : MethodName := ⟨RX6, "of", "(II)I"⟩
abbrev cX6_on : ByteArray := prog_8_method_39_code
def yX6_on : MethodName := ⟨RX6, "on", "(I)I"⟩
abbrev cX6_atSpot : ByteArray := prog_8_method_40_code
def yX6_atSpot : MethodName := ⟨RX6, "atSpot", "(III)I"⟩
abbrev cX6_at : ByteArray := prog_8_method_41_code
def yX6_at : MethodName := ⟨RX6, "at", "(III)I"⟩
abbrev cX6_common : ByteArray := prog_8_method_42_code
def yX6_common : MethodName := ⟨RX6, "common", "(II)I"⟩
abbrev cX6_cycle : ByteArray := prog_8_method_43_code
def yX6_cycle : MethodName := ⟨RX6, "cycle", "(II)I"⟩
abbrev cX6_round : ByteArray := prog_8_method_44_code
def yX6_round : MethodName := ⟨RX6, "round", "(I)I"⟩
abbrev cX6_ofCall : ByteArray := prog_8_method_45_code
def yX6_ofCall : MethodName := ⟨RX6, "ofCall", "(II)I"⟩
abbrev cX6_tells : ByteArray := prog_8_method_46_code
def yX6_tells : MethodName := ⟨RX6, "tells", "(II)I"⟩
abbrev cX6_isGoal : ByteArray := prog_8_method_47_code
def yX6_isGoal : MethodName := ⟨RX6, "isGoal", "(I)Z"⟩
abbrev cX6_holds : ByteArray := prog_8_method_48_code
def yX6_holds : MethodName := ⟨RX6, "holds", "(I)V"⟩
abbrev cX6_returns : ByteArray := prog_8_method_49_code
def yX6_returns : MethodName := ⟨RX6, "returns", "(I)V"⟩
abbrev cX6_isVaried : ByteArray := prog_8_method_50_code
def yX6_isVaried : MethodName := ⟨RX6, "isVaried", "(III)Z"⟩
abbrev cX6_search : ByteArray := prog_8_method_51_code
def yX6_search : MethodName := ⟨RX6, "search", "(III)I"⟩
abbrev cX6_fewest : ByteArray := prog_8_method_52_code
def yX6_fewest : MethodName := ⟨RX6, "fewest", "(III)I"⟩
abbrev cX6_finds : ByteArray := prog_8_method_53_code
def yX6_finds : MethodName := ⟨RX6, "finds", "(III)I"⟩
abbrev cX6_found : ByteArray := prog_8_method_54_code
def yX6_found : MethodName := ⟨RX6, "found", "(IIII)I"⟩
abbrev cX6_rows : ByteArray := prog_8_method_55_code
def yX6_rows : MethodName := ⟨RX6, "rows", "(II)I"⟩
abbrev cX6_walks : ByteArray := prog_8_method_56_code
def yX6_walks : MethodName := ⟨RX6, "walks", "()I"⟩
abbrev cX6_judges : ByteArray := prog_8_method_57_code
def yX6_judges : MethodName := ⟨RX6, "judges", "()I"⟩
abbrev cX6_planned : ByteArray := prog_8_method_58_code
def yX6_planned : MethodName := ⟨RX6, "planned", "(II)I"⟩
abbrev cX6_number : ByteArray := prog_8_method_59_code
def yX6_number : MethodName := ⟨RX6, "number", "(I)I"⟩
abbrev cX6_count : ByteArray := prog_8_method_60_code
def yX6_count : MethodName := ⟨RX6, "count", "(I)I"⟩
abbrev cX6_type : ByteArray := prog_8_method_61_code
def yX6_type : MethodName := ⟨RX6, "type", "(I)I"⟩
abbrev cX6_clear : ByteArray := prog_8_method_62_code
def yX6_clear : MethodName := ⟨RX6, "clear", "()I"⟩
abbrev cX6_byteAt : ByteArray := prog_8_method_63_code
def yX6_byteAt : MethodName := ⟨RX6, "byteAt", "(I)I"⟩
abbrev cX6_isFigure : ByteArray := prog_8_method_64_code
def yX6_isFigure : MethodName := ⟨RX6, "isFigure", "(I)Z"⟩
abbrev cX6_blanks : ByteArray := prog_8_method_65_code
def yX6_blanks : MethodName := ⟨RX6, "blanks", "()V"⟩
abbrev cX6_fails : ByteArray := prog_8_method_66_code
def yX6_fails : MethodName := ⟨RX6, "fails", "(I)Z"⟩
abbrev cX6_readsNumber : ByteArray := prog_8_method_67_code
def yX6_readsNumber : MethodName := ⟨RX6, "readsNumber", "()Z"⟩
abbrev cX6_readsCycle : ByteArray := prog_8_method_68_code
def yX6_readsCycle : MethodName := ⟨RX6, "readsCycle", "(I)Z"⟩
abbrev cX6_readsCycles : ByteArray := prog_8_method_69_code
def yX6_readsCycles : MethodName := ⟨RX6, "readsCycles", "(I)Z"⟩
abbrev cX6_numbersOf : ByteArray := prog_8_method_70_code
def yX6_numbersOf : MethodName := ⟨RX6, "numbersOf", "(I)I"⟩
abbrev cX6_readsOrder : ByteArray := prog_8_method_71_code
def yX6_readsOrder : MethodName := ⟨RX6, "readsOrder", "()Z"⟩
abbrev cX6_reads : ByteArray := prog_8_method_72_code
def yX6_reads : MethodName := ⟨RX6, "reads", "()Z"⟩
abbrev cX6_doesOne : ByteArray := prog_8_method_73_code
def yX6_doesOne : MethodName := ⟨RX6, "doesOne", "(I)I"⟩
abbrev cX6_does : ByteArray := prog_8_method_74_code
def yX6_does : MethodName := ⟨RX6, "does", "()I"⟩
abbrev cX6_toldOf : ByteArray := prog_8_method_75_code
def yX6_toldOf : MethodName := ⟨RX6, "toldOf", "(I)I"⟩
abbrev cX6_told : ByteArray := prog_8_method_76_code
def yX6_told : MethodName := ⟨RX6, "told", "(I)I"⟩
abbrev cX6_digest : ByteArray := prog_8_method_77_code
def yX6_digest : MethodName := ⟨RX6, "digest", "()J"⟩
def RJ6 : String := "java/lang/Integer"
def TJ6 : u_T := fun k => match k with
  | _ => ("", "", "", false)
def tyJ6 : Nat → FieldType := fun k => match k with
  | _ => .int
abbrev wsJ60 : List Cond := u_ws RJ6 TJ6 0
theorem nmJ6 : ∀ a, a < 0 → ∀ b, b < 0 → a ≠ b → (TJ6 a).2.1 ≠ (TJ6 b).2.1 := by decide +kernel
theorem tyJ6_ok : ∀ k, k < 0 → parseFieldDescriptor (TJ6 k).2.2.1 = some (tyJ6 k) := by decide +kernel
abbrev cJ6_bitCount_0f7a4 : ByteArray := prog_9_method_49_code
def yJ6_bitCount_0f7a4 : MethodName := ⟨RJ6, "bitCount", "(I)I"⟩
def RJ9 : String := "java/lang/Math"
def TJ9 : u_T := fun k => match k with
  | _ => ("", "", "", false)
def tyJ9 : Nat → FieldType := fun k => match k with
  | _ => .int
abbrev wsJ90 : List Cond := u_ws RJ9 TJ9 0
theorem nmJ9 : ∀ a, a < 0 → ∀ b, b < 0 → a ≠ b → (TJ9 a).2.1 ≠ (TJ9 b).2.1 := by decide +kernel
theorem tyJ9_ok : ∀ k, k < 0 → parseFieldDescriptor (TJ9 k).2.2.1 = some (tyJ9 k) := by decide +kernel
abbrev cJ9_abs_0f7a4 : ByteArray := prog_10_method_59_code
def yJ9_abs_0f7a4 : MethodName := ⟨RJ9, "abs", "(I)I"⟩
abbrev cJ9_min_7cf53 : ByteArray := prog_10_method_69_code
def yJ9_min_7cf53 : MethodName := ⟨RJ9, "min", "(II)I"⟩
def RJ10 : String := "java/lang/System"
def TJ10 : u_T := fun k => match k with
  | _ => ("", "", "", false)
def tyJ10 : Nat → FieldType := fun k => match k with
  | _ => .int
abbrev wsJ100 : List Cond := u_ws RJ10 TJ10 0
theorem nmJ10 : ∀ a, a < 0 → ∀ b, b < 0 → a ≠ b → (TJ10 a).2.1 ≠ (TJ10 b).2.1 := by decide +kernel
theorem tyJ10_ok : ∀ k, k < 0 → parseFieldDescriptor (TJ10 k).2.2.1 = some (tyJ10 k) := by decide +kernel
def RJ7 : String := "java/util/Arrays"
def TJ7 : u_T := fun k => match k with
  | _ => ("", "", "", false)
def tyJ7 : Nat → FieldType := fun k => match k with
  | _ => .int
abbrev wsJ70 : List Cond := u_ws RJ7 TJ7 0
theorem nmJ7 : ∀ a, a < 0 → ∀ b, b < 0 → a ≠ b → (TJ7 a).2.1 ≠ (TJ7 b).2.1 := by decide +kernel
theorem tyJ7_ok : ∀ k, k < 0 → parseFieldDescriptor (TJ7 k).2.2.1 = some (tyJ7 k) := by decide +kernel
abbrev cJ7_fill_53178 : ByteArray := prog_12_method_103_code
def yJ7_fill_53178 : MethodName := ⟨RJ7, "fill", "([II)V"⟩
def RL : String := "CalledSquareLaw"
abbrev cL_law : ByteArray := code
def yL_law : MethodName := ⟨RL, "law", "([I)Z"⟩
end
section
theorem dX0_init_0 : decode cX0_init 0 = .ok (.aload_n 0, 1) := by decide +kernel
theorem dX0_init_1 : decode cX0_init 1 = .ok (.invokespecial 3, 3) := by decide +kernel
theorem dX0_init_4 : decode cX0_init 4 = .ok (.aload_n 0, 1) := by decide +kernel
theorem dX0_init_5 : decode cX0_init 5 = .ok (.bipush 12, 2) := by decide +kernel
theorem dX0_init_7 : decode cX0_init 7 = .ok (.newarray .int, 2) := by decide +kernel
theorem dX0_init_9 : decode cX0_init 9 = .ok (.putfield 9, 3) := by decide +kernel
theorem dX0_init_12 : decode cX0_init 12 = .ok (.aload_n 0, 1) := by decide +kernel
theorem dX0_init_13 : decode cX0_init 13 = .ok (.bipush 12, 2) := by decide +kernel
theorem dX0_init_15 : decode cX0_init 15 = .ok (.newarray .int, 2) := by decide +kernel
theorem dX0_init_17 : decode cX0_init 17 = .ok (.putfield 15, 3) := by decide +kernel
theorem dX0_init_20 : decode cX0_init 20 = .ok (.aload_n 0, 1) := by decide +kernel
theorem dX0_init_21 : decode cX0_init 21 = .ok (.bipush 12, 2) := by decide +kernel
theorem dX0_init_23 : decode cX0_init 23 = .ok (.newarray .int, 2) := by decide +kernel
theorem dX0_init_25 : decode cX0_init 25 = .ok (.putfield 18, 3) := by decide +kernel
theorem dX0_init_28 : decode cX0_init 28 = .ok (.return_, 1) := by decide +kernel
theorem dX0_reset_0 : decode cX0_reset 0 = .ok (.iconst 0, 1) := by decide +kernel
theorem dX0_reset_1 : decode cX0_reset 1 = .ok (.istore_n 1, 1) := by decide +kernel
theorem dX0_reset_2 : decode cX0_reset 2 = .ok (.iload_n 1, 1) := by decide +kernel
theorem dX0_reset_3 : decode cX0_reset 3 = .ok (.bipush 12, 2) := by decide +kernel
theorem dX0_reset_5 : decode cX0_reset 5 = .ok (.if_icmp .ge 30, 3) := by decide +kernel
theorem dX0_reset_8 : decode cX0_reset 8 = .ok (.aload_n 0, 1) := by decide +kernel
theorem dX0_reset_9 : decode cX0_reset 9 = .ok (.getfield 9, 3) := by decide +kernel
theorem dX0_reset_12 : decode cX0_reset 12 = .ok (.iload_n 1, 1) := by decide +kernel
theorem dX0_reset_13 : decode cX0_reset 13 = .ok (.iload_n 1, 1) := by decide +kernel
theorem dX0_reset_14 : decode cX0_reset 14 = .ok (.iastore, 1) := by decide +kernel
theorem dX0_reset_15 : decode cX0_reset 15 = .ok (.aload_n 0, 1) := by decide +kernel
theorem dX0_reset_16 : decode cX0_reset 16 = .ok (.getfield 15, 3) := by decide +kernel
theorem dX0_reset_19 : decode cX0_reset 19 = .ok (.iload_n 1, 1) := by decide +kernel
theorem dX0_reset_20 : decode cX0_reset 20 = .ok (.iconst 0, 1) := by decide +kernel
theorem dX0_reset_21 : decode cX0_reset 21 = .ok (.iastore, 1) := by decide +kernel
theorem dX0_reset_22 : decode cX0_reset 22 = .ok (.aload_n 0, 1) := by decide +kernel
theorem dX0_reset_23 : decode cX0_reset 23 = .ok (.getfield 18, 3) := by decide +kernel
theorem dX0_reset_26 : decode cX0_reset 26 = .ok (.iload_n 1, 1) := by decide +kernel
theorem dX0_reset_27 : decode cX0_reset 27 = .ok (.iconst 0, 1) := by decide +kernel
theorem dX0_reset_28 : decode cX0_reset 28 = .ok (.iastore, 1) := by decide +kernel
theorem dX0_reset_29 : decode cX0_reset 29 = .ok (.iinc 1 1, 3) := by decide +kernel
theorem dX0_reset_32 : decode cX0_reset 32 = .ok (.goto (-30), 3) := by decide +kernel
theorem dX0_reset_35 : decode cX0_reset 35 = .ok (.return_, 1) := by decide +kernel
theorem dX0_copyFrom_0 : decode cX0_copyFrom 0 = .ok (.aload_n 1, 1) := by decide +kernel
theorem dX0_copyFrom_1 : decode cX0_copyFrom 1 = .ok (.getfield 9, 3) := by decide +kernel
theorem dX0_copyFrom_4 : decode cX0_copyFrom 4 = .ok (.iconst 0, 1) := by decide +kernel
theorem dX0_copyFrom_5 : decode cX0_copyFrom 5 = .ok (.aload_n 0, 1) := by decide +kernel
theorem dX0_copyFrom_6 : decode cX0_copyFrom 6 = .ok (.getfield 9, 3) := by decide +kernel
theorem dX0_copyFrom_9 : decode cX0_copyFrom 9 = .ok (.iconst 0, 1) := by decide +kernel
theorem dX0_copyFrom_10 : decode cX0_copyFrom 10 = .ok (.bipush 12, 2) := by decide +kernel
theorem dX0_copyFrom_12 : decode cX0_copyFrom 12 = .ok (.invokestatic 21, 3) := by decide +kernel
theorem dX0_copyFrom_15 : decode cX0_copyFrom 15 = .ok (.aload_n 1, 1) := by decide +kernel
theorem dX0_copyFrom_16 : decode cX0_copyFrom 16 = .ok (.getfield 15, 3) := by decide +kernel
theorem dX0_copyFrom_19 : decode cX0_copyFrom 19 = .ok (.iconst 0, 1) := by decide +kernel
theorem dX0_copyFrom_20 : decode cX0_copyFrom 20 = .ok (.aload_n 0, 1) := by decide +kernel
theorem dX0_copyFrom_21 : decode cX0_copyFrom 21 = .ok (.getfield 15, 3) := by decide +kernel
theorem dX0_copyFrom_24 : decode cX0_copyFrom 24 = .ok (.iconst 0, 1) := by decide +kernel
theorem dX0_copyFrom_25 : decode cX0_copyFrom 25 = .ok (.bipush 12, 2) := by decide +kernel
theorem dX0_copyFrom_27 : decode cX0_copyFrom 27 = .ok (.invokestatic 21, 3) := by decide +kernel
theorem dX0_copyFrom_30 : decode cX0_copyFrom 30 = .ok (.aload_n 1, 1) := by decide +kernel
theorem dX0_copyFrom_31 : decode cX0_copyFrom 31 = .ok (.getfield 18, 3) := by decide +kernel
theorem dX0_copyFrom_34 : decode cX0_copyFrom 34 = .ok (.iconst 0, 1) := by decide +kernel
theorem dX0_copyFrom_35 : decode cX0_copyFrom 35 = .ok (.aload_n 0, 1) := by decide +kernel
theorem dX0_copyFrom_36 : decode cX0_copyFrom 36 = .ok (.getfield 18, 3) := by decide +kernel
theorem dX0_copyFrom_39 : decode cX0_copyFrom 39 = .ok (.iconst 0, 1) := by decide +kernel
theorem dX0_copyFrom_40 : decode cX0_copyFrom 40 = .ok (.bipush 12, 2) := by decide +kernel
theorem dX0_copyFrom_42 : decode cX0_copyFrom 42 = .ok (.invokestatic 21, 3) := by decide +kernel
theorem dX0_copyFrom_45 : decode cX0_copyFrom 45 = .ok (.return_, 1) := by decide +kernel
theorem dX0_canBeJoinedWith_0 : decode cX0_canBeJoinedWith 0 = .ok (.iconst 0, 1) := by decide +kernel
theorem dX0_canBeJoinedWith_1 : decode cX0_canBeJoinedWith 1 = .ok (.istore_n 2, 1) := by decide +kernel
theorem dX0_canBeJoinedWith_2 : decode cX0_canBeJoinedWith 2 = .ok (.iload_n 2, 1) := by decide +kernel
theorem dX0_canBeJoinedWith_3 : decode cX0_canBeJoinedWith 3 = .ok (.bipush 12, 2) := by decide +kernel
theorem dX0_canBeJoinedWith_5 : decode cX0_canBeJoinedWith 5 = .ok (.if_icmp .ge 46, 3) := by decide +kernel
theorem dX0_canBeJoinedWith_8 : decode cX0_canBeJoinedWith 8 = .ok (.aload_n 1, 1) := by decide +kernel
theorem dX0_canBeJoinedWith_9 : decode cX0_canBeJoinedWith 9 = .ok (.getfield 18, 3) := by decide +kernel
theorem dX0_canBeJoinedWith_12 : decode cX0_canBeJoinedWith 12 = .ok (.aload_n 0, 1) := by decide +kernel
theorem dX0_canBeJoinedWith_13 : decode cX0_canBeJoinedWith 13 = .ok (.getfield 9, 3) := by decide +kernel
theorem dX0_canBeJoinedWith_16 : decode cX0_canBeJoinedWith 16 = .ok (.iload_n 2, 1) := by decide +kernel
theorem dX0_canBeJoinedWith_17 : decode cX0_canBeJoinedWith 17 = .ok (.iaload, 1) := by decide +kernel
theorem dX0_canBeJoinedWith_18 : decode cX0_canBeJoinedWith 18 = .ok (.iaload, 1) := by decide +kernel
theorem dX0_canBeJoinedWith_19 : decode cX0_canBeJoinedWith 19 = .ok (.istore_n 3, 1) := by decide +kernel
theorem dX0_canBeJoinedWith_20 : decode cX0_canBeJoinedWith 20 = .ok (.aload_n 0, 1) := by decide +kernel
theorem dX0_canBeJoinedWith_21 : decode cX0_canBeJoinedWith 21 = .ok (.getfield 18, 3) := by decide +kernel
theorem dX0_canBeJoinedWith_24 : decode cX0_canBeJoinedWith 24 = .ok (.iload_n 2, 1) := by decide +kernel
theorem dX0_canBeJoinedWith_25 : decode cX0_canBeJoinedWith 25 = .ok (.iaload, 1) := by decide +kernel
theorem dX0_canBeJoinedWith_26 : decode cX0_canBeJoinedWith 26 = .ok (.ifCond .eq 19, 3) := by decide +kernel
theorem dX0_canBeJoinedWith_29 : decode cX0_canBeJoinedWith 29 = .ok (.iload_n 3, 1) := by decide +kernel
theorem dX0_canBeJoinedWith_30 : decode cX0_canBeJoinedWith 30 = .ok (.ifCond .eq 15, 3) := by decide +kernel
theorem dX0_canBeJoinedWith_33 : decode cX0_canBeJoinedWith 33 = .ok (.aload_n 0, 1) := by decide +kernel
theorem dX0_canBeJoinedWith_34 : decode cX0_canBeJoinedWith 34 = .ok (.getfield 18, 3) := by decide +kernel
theorem dX0_canBeJoinedWith_37 : decode cX0_canBeJoinedWith 37 = .ok (.iload_n 2, 1) := by decide +kernel
theorem dX0_canBeJoinedWith_38 : decode cX0_canBeJoinedWith 38 = .ok (.iaload, 1) := by decide +kernel
theorem dX0_canBeJoinedWith_39 : decode cX0_canBeJoinedWith 39 = .ok (.iload_n 3, 1) := by decide +kernel
theorem dX0_canBeJoinedWith_40 : decode cX0_canBeJoinedWith 40 = .ok (.if_icmp .eq 5, 3) := by decide +kernel
theorem dX0_canBeJoinedWith_43 : decode cX0_canBeJoinedWith 43 = .ok (.iconst 0, 1) := by decide +kernel
theorem dX0_canBeJoinedWith_44 : decode cX0_canBeJoinedWith 44 = .ok (.ireturn, 1) := by decide +kernel
theorem dX0_canBeJoinedWith_45 : decode cX0_canBeJoinedWith 45 = .ok (.iinc 2 1, 3) := by decide +kernel
theorem dX0_canBeJoinedWith_48 : decode cX0_canBeJoinedWith 48 = .ok (.goto (-46), 3) := by decide +kernel
theorem dX0_canBeJoinedWith_51 : decode cX0_canBeJoinedWith 51 = .ok (.iconst 1, 1) := by decide +kernel
theorem dX0_canBeJoinedWith_52 : decode cX0_canBeJoinedWith 52 = .ok (.ireturn, 1) := by decide +kernel
theorem dX0_becomeJoined_0 : decode cX0_becomeJoined 0 = .ok (.iconst 0, 1) := by decide +kernel
theorem dX0_becomeJoined_1 : decode cX0_becomeJoined 1 = .ok (.istore_n 3, 1) := by decide +kernel
theorem dX0_becomeJoined_2 : decode cX0_becomeJoined 2 = .ok (.iload_n 3, 1) := by decide +kernel
theorem dX0_becomeJoined_3 : decode cX0_becomeJoined 3 = .ok (.bipush 12, 2) := by decide +kernel
theorem dX0_becomeJoined_5 : decode cX0_becomeJoined 5 = .ok (.if_icmp .ge 83, 3) := by decide +kernel
theorem dX0_becomeJoined_8 : decode cX0_becomeJoined 8 = .ok (.aload_n 1, 1) := by decide +kernel
theorem dX0_becomeJoined_9 : decode cX0_becomeJoined 9 = .ok (.getfield 9, 3) := by decide +kernel
theorem dX0_becomeJoined_12 : decode cX0_becomeJoined 12 = .ok (.iload_n 3, 1) := by decide +kernel
theorem dX0_becomeJoined_13 : decode cX0_becomeJoined 13 = .ok (.iaload, 1) := by decide +kernel
theorem dX0_becomeJoined_14 : decode cX0_becomeJoined 14 = .ok (.istore 4, 2) := by decide +kernel
theorem dX0_becomeJoined_16 : decode cX0_becomeJoined 16 = .ok (.aload_n 0, 1) := by decide +kernel
theorem dX0_becomeJoined_17 : decode cX0_becomeJoined 17 = .ok (.getfield 9, 3) := by decide +kernel
theorem dX0_becomeJoined_20 : decode cX0_becomeJoined 20 = .ok (.iload_n 3, 1) := by decide +kernel
theorem dX0_becomeJoined_21 : decode cX0_becomeJoined 21 = .ok (.aload_n 2, 1) := by decide +kernel
theorem dX0_becomeJoined_22 : decode cX0_becomeJoined 22 = .ok (.getfield 9, 3) := by decide +kernel
theorem dX0_becomeJoined_25 : decode cX0_becomeJoined 25 = .ok (.iload 4, 2) := by decide +kernel
theorem dX0_becomeJoined_27 : decode cX0_becomeJoined 27 = .ok (.iaload, 1) := by decide +kernel
theorem dX0_becomeJoined_28 : decode cX0_becomeJoined 28 = .ok (.iastore, 1) := by decide +kernel
theorem dX0_becomeJoined_29 : decode cX0_becomeJoined 29 = .ok (.aload_n 0, 1) := by decide +kernel
theorem dX0_becomeJoined_30 : decode cX0_becomeJoined 30 = .ok (.getfield 15, 3) := by decide +kernel
theorem dX0_becomeJoined_33 : decode cX0_becomeJoined 33 = .ok (.iload_n 3, 1) := by decide +kernel
theorem dX0_becomeJoined_34 : decode cX0_becomeJoined 34 = .ok (.aload_n 1, 1) := by decide +kernel
theorem dX0_becomeJoined_35 : decode cX0_becomeJoined 35 = .ok (.getfield 15, 3) := by decide +kernel
theorem dX0_becomeJoined_38 : decode cX0_becomeJoined 38 = .ok (.iload_n 3, 1) := by decide +kernel
theorem dX0_becomeJoined_39 : decode cX0_becomeJoined 39 = .ok (.iaload, 1) := by decide +kernel
theorem dX0_becomeJoined_40 : decode cX0_becomeJoined 40 = .ok (.aload_n 2, 1) := by decide +kernel
theorem dX0_becomeJoined_41 : decode cX0_becomeJoined 41 = .ok (.getfield 15, 3) := by decide +kernel
theorem dX0_becomeJoined_44 : decode cX0_becomeJoined 44 = .ok (.iload 4, 2) := by decide +kernel
theorem dX0_becomeJoined_46 : decode cX0_becomeJoined 46 = .ok (.iaload, 1) := by decide +kernel
theorem dX0_becomeJoined_47 : decode cX0_becomeJoined 47 = .ok (.iadd, 1) := by decide +kernel
theorem dX0_becomeJoined_48 : decode cX0_becomeJoined 48 = .ok (.iconst 4, 1) := by decide +kernel
theorem dX0_becomeJoined_49 : decode cX0_becomeJoined 49 = .ok (.irem, 1) := by decide +kernel
theorem dX0_becomeJoined_50 : decode cX0_becomeJoined 50 = .ok (.iastore, 1) := by decide +kernel
theorem dX0_becomeJoined_51 : decode cX0_becomeJoined 51 = .ok (.aload_n 0, 1) := by decide +kernel
theorem dX0_becomeJoined_52 : decode cX0_becomeJoined 52 = .ok (.getfield 18, 3) := by decide +kernel
theorem dX0_becomeJoined_55 : decode cX0_becomeJoined 55 = .ok (.iload_n 3, 1) := by decide +kernel
theorem dX0_becomeJoined_56 : decode cX0_becomeJoined 56 = .ok (.aload_n 1, 1) := by decide +kernel
theorem dX0_becomeJoined_57 : decode cX0_becomeJoined 57 = .ok (.getfield 18, 3) := by decide +kernel
theorem dX0_becomeJoined_60 : decode cX0_becomeJoined 60 = .ok (.iload_n 3, 1) := by decide +kernel
theorem dX0_becomeJoined_61 : decode cX0_becomeJoined 61 = .ok (.iaload, 1) := by decide +kernel
theorem dX0_becomeJoined_62 : decode cX0_becomeJoined 62 = .ok (.ifCond .eq 12, 3) := by decide +kernel
theorem dX0_becomeJoined_65 : decode cX0_becomeJoined 65 = .ok (.aload_n 1, 1) := by decide +kernel
theorem dX0_becomeJoined_66 : decode cX0_becomeJoined 66 = .ok (.getfield 18, 3) := by decide +kernel
theorem dX0_becomeJoined_69 : decode cX0_becomeJoined 69 = .ok (.iload_n 3, 1) := by decide +kernel
theorem dX0_becomeJoined_70 : decode cX0_becomeJoined 70 = .ok (.iaload, 1) := by decide +kernel
theorem dX0_becomeJoined_71 : decode cX0_becomeJoined 71 = .ok (.goto 10, 3) := by decide +kernel
theorem dX0_becomeJoined_74 : decode cX0_becomeJoined 74 = .ok (.aload_n 2, 1) := by decide +kernel
theorem dX0_becomeJoined_75 : decode cX0_becomeJoined 75 = .ok (.getfield 18, 3) := by decide +kernel
theorem dX0_becomeJoined_78 : decode cX0_becomeJoined 78 = .ok (.iload 4, 2) := by decide +kernel
theorem dX0_becomeJoined_80 : decode cX0_becomeJoined 80 = .ok (.iaload, 1) := by decide +kernel
theorem dX0_becomeJoined_81 : decode cX0_becomeJoined 81 = .ok (.iastore, 1) := by decide +kernel
theorem dX0_becomeJoined_82 : decode cX0_becomeJoined 82 = .ok (.iinc 3 1, 3) := by decide +kernel
theorem dX0_becomeJoined_85 : decode cX0_becomeJoined 85 = .ok (.goto (-83), 3) := by decide +kernel
theorem dX0_becomeJoined_88 : decode cX0_becomeJoined 88 = .ok (.return_, 1) := by decide +kernel
theorem dX0_becomeTurnedBack_0 : decode cX0_becomeTurnedBack 0 = .ok (.iconst 0, 1) := by decide +kernel
theorem dX0_becomeTurnedBack_1 : decode cX0_becomeTurnedBack 1 = .ok (.istore_n 2, 1) := by decide +kernel
theorem dX0_becomeTurnedBack_2 : decode cX0_becomeTurnedBack 2 = .ok (.iload_n 2, 1) := by decide +kernel
theorem dX0_becomeTurnedBack_3 : decode cX0_becomeTurnedBack 3 = .ok (.bipush 12, 2) := by decide +kernel
theorem dX0_becomeTurnedBack_5 : decode cX0_becomeTurnedBack 5 = .ok (.if_icmp .ge 51, 3) := by decide +kernel
theorem dX0_becomeTurnedBack_8 : decode cX0_becomeTurnedBack 8 = .ok (.aload_n 1, 1) := by decide +kernel
theorem dX0_becomeTurnedBack_9 : decode cX0_becomeTurnedBack 9 = .ok (.getfield 9, 3) := by decide +kernel
theorem dX0_becomeTurnedBack_12 : decode cX0_becomeTurnedBack 12 = .ok (.iload_n 2, 1) := by decide +kernel
theorem dX0_becomeTurnedBack_13 : decode cX0_becomeTurnedBack 13 = .ok (.iaload, 1) := by decide +kernel
theorem dX0_becomeTurnedBack_14 : decode cX0_becomeTurnedBack 14 = .ok (.istore_n 3, 1) := by decide +kernel
theorem dX0_becomeTurnedBack_15 : decode cX0_becomeTurnedBack 15 = .ok (.aload_n 0, 1) := by decide +kernel
theorem dX0_becomeTurnedBack_16 : decode cX0_becomeTurnedBack 16 = .ok (.getfield 9, 3) := by decide +kernel
theorem dX0_becomeTurnedBack_19 : decode cX0_becomeTurnedBack 19 = .ok (.iload_n 3, 1) := by decide +kernel
theorem dX0_becomeTurnedBack_20 : decode cX0_becomeTurnedBack 20 = .ok (.iload_n 2, 1) := by decide +kernel
theorem dX0_becomeTurnedBack_21 : decode cX0_becomeTurnedBack 21 = .ok (.iastore, 1) := by decide +kernel
theorem dX0_becomeTurnedBack_22 : decode cX0_becomeTurnedBack 22 = .ok (.aload_n 0, 1) := by decide +kernel
theorem dX0_becomeTurnedBack_23 : decode cX0_becomeTurnedBack 23 = .ok (.getfield 15, 3) := by decide +kernel
theorem dX0_becomeTurnedBack_26 : decode cX0_becomeTurnedBack 26 = .ok (.iload_n 3, 1) := by decide +kernel
theorem dX0_becomeTurnedBack_27 : decode cX0_becomeTurnedBack 27 = .ok (.iconst 4, 1) := by decide +kernel
theorem dX0_becomeTurnedBack_28 : decode cX0_becomeTurnedBack 28 = .ok (.aload_n 1, 1) := by decide +kernel
theorem dX0_becomeTurnedBack_29 : decode cX0_becomeTurnedBack 29 = .ok (.getfield 15, 3) := by decide +kernel
theorem dX0_becomeTurnedBack_32 : decode cX0_becomeTurnedBack 32 = .ok (.iload_n 2, 1) := by decide +kernel
theorem dX0_becomeTurnedBack_33 : decode cX0_becomeTurnedBack 33 = .ok (.iaload, 1) := by decide +kernel
theorem dX0_becomeTurnedBack_34 : decode cX0_becomeTurnedBack 34 = .ok (.isub, 1) := by decide +kernel
theorem dX0_becomeTurnedBack_35 : decode cX0_becomeTurnedBack 35 = .ok (.iconst 4, 1) := by decide +kernel
theorem dX0_becomeTurnedBack_36 : decode cX0_becomeTurnedBack 36 = .ok (.irem, 1) := by decide +kernel
theorem dX0_becomeTurnedBack_37 : decode cX0_becomeTurnedBack 37 = .ok (.iastore, 1) := by decide +kernel
theorem dX0_becomeTurnedBack_38 : decode cX0_becomeTurnedBack 38 = .ok (.aload_n 0, 1) := by decide +kernel
theorem dX0_becomeTurnedBack_39 : decode cX0_becomeTurnedBack 39 = .ok (.getfield 18, 3) := by decide +kernel
theorem dX0_becomeTurnedBack_42 : decode cX0_becomeTurnedBack 42 = .ok (.iload_n 3, 1) := by decide +kernel
theorem dX0_becomeTurnedBack_43 : decode cX0_becomeTurnedBack 43 = .ok (.aload_n 1, 1) := by decide +kernel
theorem dX0_becomeTurnedBack_44 : decode cX0_becomeTurnedBack 44 = .ok (.getfield 18, 3) := by decide +kernel
theorem dX0_becomeTurnedBack_47 : decode cX0_becomeTurnedBack 47 = .ok (.iload_n 2, 1) := by decide +kernel
theorem dX0_becomeTurnedBack_48 : decode cX0_becomeTurnedBack 48 = .ok (.iaload, 1) := by decide +kernel
theorem dX0_becomeTurnedBack_49 : decode cX0_becomeTurnedBack 49 = .ok (.iastore, 1) := by decide +kernel
theorem dX0_becomeTurnedBack_50 : decode cX0_becomeTurnedBack 50 = .ok (.iinc 2 1, 3) := by decide +kernel
theorem dX0_becomeTurnedBack_53 : decode cX0_becomeTurnedBack 53 = .ok (.goto (-51), 3) := by decide +kernel
theorem dX0_becomeTurnedBack_56 : decode cX0_becomeTurnedBack 56 = .ok (.return_, 1) := by decide +kernel
theorem dX0_placeBehind_0 : decode cX0_placeBehind 0 = .ok (.iload_n 1, 1) := by decide +kernel
theorem dX0_placeBehind_1 : decode cX0_placeBehind 1 = .ok (.iconst 4, 1) := by decide +kernel
theorem dX0_placeBehind_2 : decode cX0_placeBehind 2 = .ok (.idiv, 1) := by decide +kernel
theorem dX0_placeBehind_3 : decode cX0_placeBehind 3 = .ok (.istore_n 2, 1) := by decide +kernel
theorem dX0_placeBehind_4 : decode cX0_placeBehind 4 = .ok (.aload_n 0, 1) := by decide +kernel
theorem dX0_placeBehind_5 : decode cX0_placeBehind 5 = .ok (.getfield 9, 3) := by decide +kernel
theorem dX0_placeBehind_8 : decode cX0_placeBehind 8 = .ok (.iload_n 2, 1) := by decide +kernel
theorem dX0_placeBehind_9 : decode cX0_placeBehind 9 = .ok (.iaload, 1) := by decide +kernel
theorem dX0_placeBehind_10 : decode cX0_placeBehind 10 = .ok (.iconst 4, 1) := by decide +kernel
theorem dX0_placeBehind_11 : decode cX0_placeBehind 11 = .ok (.imul, 1) := by decide +kernel
theorem dX0_placeBehind_12 : decode cX0_placeBehind 12 = .ok (.iload_n 1, 1) := by decide +kernel
theorem dX0_placeBehind_13 : decode cX0_placeBehind 13 = .ok (.aload_n 0, 1) := by decide +kernel
theorem dX0_placeBehind_14 : decode cX0_placeBehind 14 = .ok (.getfield 15, 3) := by decide +kernel
theorem dX0_placeBehind_17 : decode cX0_placeBehind 17 = .ok (.iload_n 2, 1) := by decide +kernel
theorem dX0_placeBehind_18 : decode cX0_placeBehind 18 = .ok (.iaload, 1) := by decide +kernel
theorem dX0_placeBehind_19 : decode cX0_placeBehind 19 = .ok (.iadd, 1) := by decide +kernel
theorem dX0_placeBehind_20 : decode cX0_placeBehind 20 = .ok (.iconst 4, 1) := by decide +kernel
theorem dX0_placeBehind_21 : decode cX0_placeBehind 21 = .ok (.irem, 1) := by decide +kernel
theorem dX0_placeBehind_22 : decode cX0_placeBehind 22 = .ok (.iadd, 1) := by decide +kernel
theorem dX0_placeBehind_23 : decode cX0_placeBehind 23 = .ok (.ireturn, 1) := by decide +kernel
theorem dX0_spotsThatWant_0 : decode cX0_spotsThatWant 0 = .ok (.iconst 0, 1) := by decide +kernel
theorem dX0_spotsThatWant_1 : decode cX0_spotsThatWant 1 = .ok (.istore_n 2, 1) := by decide +kernel
theorem dX0_spotsThatWant_2 : decode cX0_spotsThatWant 2 = .ok (.iconst 0, 1) := by decide +kernel
theorem dX0_spotsThatWant_3 : decode cX0_spotsThatWant 3 = .ok (.istore_n 3, 1) := by decide +kernel
theorem dX0_spotsThatWant_4 : decode cX0_spotsThatWant 4 = .ok (.iload_n 3, 1) := by decide +kernel
theorem dX0_spotsThatWant_5 : decode cX0_spotsThatWant 5 = .ok (.bipush 12, 2) := by decide +kernel
theorem dX0_spotsThatWant_7 : decode cX0_spotsThatWant 7 = .ok (.if_icmp .ge 25, 3) := by decide +kernel
theorem dX0_spotsThatWant_10 : decode cX0_spotsThatWant 10 = .ok (.aload_n 0, 1) := by decide +kernel
theorem dX0_spotsThatWant_11 : decode cX0_spotsThatWant 11 = .ok (.getfield 18, 3) := by decide +kernel
theorem dX0_spotsThatWant_14 : decode cX0_spotsThatWant 14 = .ok (.iload_n 3, 1) := by decide +kernel
theorem dX0_spotsThatWant_15 : decode cX0_spotsThatWant 15 = .ok (.iaload, 1) := by decide +kernel
theorem dX0_spotsThatWant_16 : decode cX0_spotsThatWant 16 = .ok (.iload_n 1, 1) := by decide +kernel
theorem dX0_spotsThatWant_17 : decode cX0_spotsThatWant 17 = .ok (.if_icmp .ne 9, 3) := by decide +kernel
theorem dX0_spotsThatWant_20 : decode cX0_spotsThatWant 20 = .ok (.iload_n 2, 1) := by decide +kernel
theorem dX0_spotsThatWant_21 : decode cX0_spotsThatWant 21 = .ok (.iconst 1, 1) := by decide +kernel
theorem dX0_spotsThatWant_22 : decode cX0_spotsThatWant 22 = .ok (.iload_n 3, 1) := by decide +kernel
theorem dX0_spotsThatWant_23 : decode cX0_spotsThatWant 23 = .ok (.ishl, 1) := by decide +kernel
theorem dX0_spotsThatWant_24 : decode cX0_spotsThatWant 24 = .ok (.ior, 1) := by decide +kernel
theorem dX0_spotsThatWant_25 : decode cX0_spotsThatWant 25 = .ok (.istore_n 2, 1) := by decide +kernel
theorem dX0_spotsThatWant_26 : decode cX0_spotsThatWant 26 = .ok (.iinc 3 1, 3) := by decide +kernel
theorem dX0_spotsThatWant_29 : decode cX0_spotsThatWant 29 = .ok (.goto (-25), 3) := by decide +kernel
theorem dX0_spotsThatWant_32 : decode cX0_spotsThatWant 32 = .ok (.iload_n 2, 1) := by decide +kernel
theorem dX0_spotsThatWant_33 : decode cX0_spotsThatWant 33 = .ok (.ireturn, 1) := by decide +kernel
theorem dX0_fitsOn_0 : decode cX0_fitsOn 0 = .ok (.aload_n 0, 1) := by decide +kernel
theorem dX0_fitsOn_1 : decode cX0_fitsOn 1 = .ok (.iconst 1, 1) := by decide +kernel
theorem dX0_fitsOn_2 : decode cX0_fitsOn 2 = .ok (.invokevirtual 27, 3) := by decide +kernel
theorem dX0_fitsOn_5 : decode cX0_fitsOn 5 = .ok (.istore_n 2, 1) := by decide +kernel
theorem dX0_fitsOn_6 : decode cX0_fitsOn 6 = .ok (.iload_n 1, 1) := by decide +kernel
theorem dX0_fitsOn_7 : decode cX0_fitsOn 7 = .ok (.iload_n 2, 1) := by decide +kernel
theorem dX0_fitsOn_8 : decode cX0_fitsOn 8 = .ok (.iand, 1) := by decide +kernel
theorem dX0_fitsOn_9 : decode cX0_fitsOn 9 = .ok (.iload_n 2, 1) := by decide +kernel
theorem dX0_fitsOn_10 : decode cX0_fitsOn 10 = .ok (.if_icmp .ne 17, 3) := by decide +kernel
theorem dX0_fitsOn_13 : decode cX0_fitsOn 13 = .ok (.iload_n 1, 1) := by decide +kernel
theorem dX0_fitsOn_14 : decode cX0_fitsOn 14 = .ok (.aload_n 0, 1) := by decide +kernel
theorem dX0_fitsOn_15 : decode cX0_fitsOn 15 = .ok (.iconst 2, 1) := by decide +kernel
theorem dX0_fitsOn_16 : decode cX0_fitsOn 16 = .ok (.invokevirtual 27, 3) := by decide +kernel
theorem dX0_fitsOn_19 : decode cX0_fitsOn 19 = .ok (.iand, 1) := by decide +kernel
theorem dX0_fitsOn_20 : decode cX0_fitsOn 20 = .ok (.ifCond .ne 7, 3) := by decide +kernel
theorem dX0_fitsOn_23 : decode cX0_fitsOn 23 = .ok (.iconst 1, 1) := by decide +kernel
theorem dX0_fitsOn_24 : decode cX0_fitsOn 24 = .ok (.goto 4, 3) := by decide +kernel
theorem dX0_fitsOn_27 : decode cX0_fitsOn 27 = .ok (.iconst 0, 1) := by decide +kernel
theorem dX0_fitsOn_28 : decode cX0_fitsOn 28 = .ok (.ireturn, 1) := by decide +kernel
theorem dX0_spotsThatMove_0 : decode cX0_spotsThatMove 0 = .ok (.iconst 0, 1) := by decide +kernel
theorem dX0_spotsThatMove_1 : decode cX0_spotsThatMove 1 = .ok (.istore_n 1, 1) := by decide +kernel
theorem dX0_spotsThatMove_2 : decode cX0_spotsThatMove 2 = .ok (.iconst 0, 1) := by decide +kernel
theorem dX0_spotsThatMove_3 : decode cX0_spotsThatMove 3 = .ok (.istore_n 2, 1) := by decide +kernel
theorem dX0_spotsThatMove_4 : decode cX0_spotsThatMove 4 = .ok (.iload_n 2, 1) := by decide +kernel
theorem dX0_spotsThatMove_5 : decode cX0_spotsThatMove 5 = .ok (.bipush 12, 2) := by decide +kernel
theorem dX0_spotsThatMove_7 : decode cX0_spotsThatMove 7 = .ok (.if_icmp .ge 27, 3) := by decide +kernel
theorem dX0_spotsThatMove_10 : decode cX0_spotsThatMove 10 = .ok (.iload_n 1, 1) := by decide +kernel
theorem dX0_spotsThatMove_11 : decode cX0_spotsThatMove 11 = .ok (.aload_n 0, 1) := by decide +kernel
theorem dX0_spotsThatMove_12 : decode cX0_spotsThatMove 12 = .ok (.getfield 9, 3) := by decide +kernel
theorem dX0_spotsThatMove_15 : decode cX0_spotsThatMove 15 = .ok (.iload_n 2, 1) := by decide +kernel
theorem dX0_spotsThatMove_16 : decode cX0_spotsThatMove 16 = .ok (.iaload, 1) := by decide +kernel
theorem dX0_spotsThatMove_17 : decode cX0_spotsThatMove 17 = .ok (.iload_n 2, 1) := by decide +kernel
theorem dX0_spotsThatMove_18 : decode cX0_spotsThatMove 18 = .ok (.if_icmp .eq 7, 3) := by decide +kernel
theorem dX0_spotsThatMove_21 : decode cX0_spotsThatMove 21 = .ok (.iconst 1, 1) := by decide +kernel
theorem dX0_spotsThatMove_22 : decode cX0_spotsThatMove 22 = .ok (.goto 4, 3) := by decide +kernel
theorem dX0_spotsThatMove_25 : decode cX0_spotsThatMove 25 = .ok (.iconst 0, 1) := by decide +kernel
theorem dX0_spotsThatMove_26 : decode cX0_spotsThatMove 26 = .ok (.iadd, 1) := by decide +kernel
theorem dX0_spotsThatMove_27 : decode cX0_spotsThatMove 27 = .ok (.istore_n 1, 1) := by decide +kernel
theorem dX0_spotsThatMove_28 : decode cX0_spotsThatMove 28 = .ok (.iinc 2 1, 3) := by decide +kernel
theorem dX0_spotsThatMove_31 : decode cX0_spotsThatMove 31 = .ok (.goto (-27), 3) := by decide +kernel
theorem dX0_spotsThatMove_34 : decode cX0_spotsThatMove 34 = .ok (.iload_n 1, 1) := by decide +kernel
theorem dX0_spotsThatMove_35 : decode cX0_spotsThatMove 35 = .ok (.ireturn, 1) := by decide +kernel
theorem dX0_spotsWithWant_0 : decode cX0_spotsWithWant 0 = .ok (.bipush 12, 2) := by decide +kernel
theorem dX0_spotsWithWant_2 : decode cX0_spotsWithWant 2 = .ok (.aload_n 0, 1) := by decide +kernel
theorem dX0_spotsWithWant_3 : decode cX0_spotsWithWant 3 = .ok (.iconst 0, 1) := by decide +kernel
theorem dX0_spotsWithWant_4 : decode cX0_spotsWithWant 4 = .ok (.invokevirtual 27, 3) := by decide +kernel
theorem dX0_spotsWithWant_7 : decode cX0_spotsWithWant 7 = .ok (.invokestatic 31, 3) := by decide +kernel
theorem dX0_spotsWithWant_10 : decode cX0_spotsWithWant 10 = .ok (.isub, 1) := by decide +kernel
theorem dX0_spotsWithWant_11 : decode cX0_spotsWithWant 11 = .ok (.ireturn, 1) := by decide +kernel
theorem dX0_round_0 : decode cX0_round 0 = .ok (.iconst 1, 1) := by decide +kernel
theorem dX0_round_1 : decode cX0_round 1 = .ok (.istore_n 1, 1) := by decide +kernel
theorem dX0_round_2 : decode cX0_round 2 = .ok (.iconst 0, 1) := by decide +kernel
theorem dX0_round_3 : decode cX0_round 3 = .ok (.istore_n 2, 1) := by decide +kernel
theorem dX0_round_4 : decode cX0_round 4 = .ok (.iconst 0, 1) := by decide +kernel
theorem dX0_round_5 : decode cX0_round 5 = .ok (.istore_n 3, 1) := by decide +kernel
theorem dX0_round_6 : decode cX0_round 6 = .ok (.iload_n 3, 1) := by decide +kernel
theorem dX0_round_7 : decode cX0_round 7 = .ok (.bipush 12, 2) := by decide +kernel
theorem dX0_round_9 : decode cX0_round 9 = .ok (.if_icmp .ge 92, 3) := by decide +kernel
theorem dX0_round_12 : decode cX0_round 12 = .ok (.iload_n 2, 1) := by decide +kernel
theorem dX0_round_13 : decode cX0_round 13 = .ok (.iload_n 3, 1) := by decide +kernel
theorem dX0_round_14 : decode cX0_round 14 = .ok (.ishr, 1) := by decide +kernel
theorem dX0_round_15 : decode cX0_round 15 = .ok (.iconst 1, 1) := by decide +kernel
theorem dX0_round_16 : decode cX0_round 16 = .ok (.iand, 1) := by decide +kernel
theorem dX0_round_17 : decode cX0_round 17 = .ok (.ifCond .eq 6, 3) := by decide +kernel
theorem dX0_round_20 : decode cX0_round 20 = .ok (.goto 75, 3) := by decide +kernel
theorem dX0_round_23 : decode cX0_round 23 = .ok (.iconst 0, 1) := by decide +kernel
theorem dX0_round_24 : decode cX0_round 24 = .ok (.istore 4, 2) := by decide +kernel
theorem dX0_round_26 : decode cX0_round 26 = .ok (.iconst 0, 1) := by decide +kernel
theorem dX0_round_27 : decode cX0_round 27 = .ok (.istore 5, 2) := by decide +kernel
theorem dX0_round_29 : decode cX0_round 29 = .ok (.iload_n 3, 1) := by decide +kernel
theorem dX0_round_30 : decode cX0_round 30 = .ok (.istore 6, 2) := by decide +kernel
theorem dX0_round_32 : decode cX0_round 32 = .ok (.iload 4, 2) := by decide +kernel
theorem dX0_round_34 : decode cX0_round 34 = .ok (.bipush 12, 2) := by decide +kernel
theorem dX0_round_36 : decode cX0_round 36 = .ok (.if_icmp .ge 46, 3) := by decide +kernel
theorem dX0_round_39 : decode cX0_round 39 = .ok (.iload_n 2, 1) := by decide +kernel
theorem dX0_round_40 : decode cX0_round 40 = .ok (.iload 6, 2) := by decide +kernel
theorem dX0_round_42 : decode cX0_round 42 = .ok (.ishr, 1) := by decide +kernel
theorem dX0_round_43 : decode cX0_round 43 = .ok (.iconst 1, 1) := by decide +kernel
theorem dX0_round_44 : decode cX0_round 44 = .ok (.iand, 1) := by decide +kernel
theorem dX0_round_45 : decode cX0_round 45 = .ok (.ifCond .ne 37, 3) := by decide +kernel
theorem dX0_round_48 : decode cX0_round 48 = .ok (.iload_n 2, 1) := by decide +kernel
theorem dX0_round_49 : decode cX0_round 49 = .ok (.iconst 1, 1) := by decide +kernel
theorem dX0_round_50 : decode cX0_round 50 = .ok (.iload 6, 2) := by decide +kernel
theorem dX0_round_52 : decode cX0_round 52 = .ok (.ishl, 1) := by decide +kernel
theorem dX0_round_53 : decode cX0_round 53 = .ok (.ior, 1) := by decide +kernel
theorem dX0_round_54 : decode cX0_round 54 = .ok (.istore_n 2, 1) := by decide +kernel
theorem dX0_round_55 : decode cX0_round 55 = .ok (.iload 5, 2) := by decide +kernel
theorem dX0_round_57 : decode cX0_round 57 = .ok (.aload_n 0, 1) := by decide +kernel
theorem dX0_round_58 : decode cX0_round 58 = .ok (.getfield 15, 3) := by decide +kernel
theorem dX0_round_61 : decode cX0_round 61 = .ok (.iload 6, 2) := by decide +kernel
theorem dX0_round_63 : decode cX0_round 63 = .ok (.iaload, 1) := by decide +kernel
theorem dX0_round_64 : decode cX0_round 64 = .ok (.iadd, 1) := by decide +kernel
theorem dX0_round_65 : decode cX0_round 65 = .ok (.istore 5, 2) := by decide +kernel
theorem dX0_round_67 : decode cX0_round 67 = .ok (.aload_n 0, 1) := by decide +kernel
theorem dX0_round_68 : decode cX0_round 68 = .ok (.getfield 9, 3) := by decide +kernel
theorem dX0_round_71 : decode cX0_round 71 = .ok (.iload 6, 2) := by decide +kernel
theorem dX0_round_73 : decode cX0_round 73 = .ok (.iaload, 1) := by decide +kernel
theorem dX0_round_74 : decode cX0_round 74 = .ok (.istore 6, 2) := by decide +kernel
theorem dX0_round_76 : decode cX0_round 76 = .ok (.iinc 4 1, 3) := by decide +kernel
theorem dX0_round_79 : decode cX0_round 79 = .ok (.goto (-47), 3) := by decide +kernel
theorem dX0_round_82 : decode cX0_round 82 = .ok (.iload_n 1, 1) := by decide +kernel
theorem dX0_round_83 : decode cX0_round 83 = .ok (.iload 4, 2) := by decide +kernel
theorem dX0_round_85 : decode cX0_round 85 = .ok (.iload 5, 2) := by decide +kernel
theorem dX0_round_87 : decode cX0_round 87 = .ok (.invokestatic 36, 3) := by decide +kernel
theorem dX0_round_90 : decode cX0_round 90 = .ok (.imul, 1) := by decide +kernel
theorem dX0_round_91 : decode cX0_round 91 = .ok (.invokestatic 39, 3) := by decide +kernel
theorem dX0_round_94 : decode cX0_round 94 = .ok (.istore_n 1, 1) := by decide +kernel
theorem dX0_round_95 : decode cX0_round 95 = .ok (.iinc 3 1, 3) := by decide +kernel
theorem dX0_round_98 : decode cX0_round 98 = .ok (.goto (-92), 3) := by decide +kernel
theorem dX0_round_101 : decode cX0_round 101 = .ok (.iload_n 1, 1) := by decide +kernel
theorem dX0_round_102 : decode cX0_round 102 = .ok (.ireturn, 1) := by decide +kernel
theorem dX0_timesToFaceAhead_0 : decode cX0_timesToFaceAhead 0 = .ok (.iload_n 0, 1) := by decide +kernel
theorem dX0_timesToFaceAhead_1 : decode cX0_timesToFaceAhead 1 = .ok (.iconst 4, 1) := by decide +kernel
theorem dX0_timesToFaceAhead_2 : decode cX0_timesToFaceAhead 2 = .ok (.irem, 1) := by decide +kernel
theorem dX0_timesToFaceAhead_3 : decode cX0_timesToFaceAhead 3 = .ok (.istore_n 1, 1) := by decide +kernel
theorem dX0_timesToFaceAhead_4 : decode cX0_timesToFaceAhead 4 = .ok (.iload_n 1, 1) := by decide +kernel
theorem dX0_timesToFaceAhead_5 : decode cX0_timesToFaceAhead 5 = .ok (.ifCond .ne 7, 3) := by decide +kernel
theorem dX0_timesToFaceAhead_8 : decode cX0_timesToFaceAhead 8 = .ok (.iconst 1, 1) := by decide +kernel
theorem dX0_timesToFaceAhead_9 : decode cX0_timesToFaceAhead 9 = .ok (.goto 13, 3) := by decide +kernel
theorem dX0_timesToFaceAhead_12 : decode cX0_timesToFaceAhead 12 = .ok (.iload_n 1, 1) := by decide +kernel
theorem dX0_timesToFaceAhead_13 : decode cX0_timesToFaceAhead 13 = .ok (.iconst 2, 1) := by decide +kernel
theorem dX0_timesToFaceAhead_14 : decode cX0_timesToFaceAhead 14 = .ok (.if_icmp .ne 7, 3) := by decide +kernel
theorem dX0_timesToFaceAhead_17 : decode cX0_timesToFaceAhead 17 = .ok (.iconst 2, 1) := by decide +kernel
theorem dX0_timesToFaceAhead_18 : decode cX0_timesToFaceAhead 18 = .ok (.goto 4, 3) := by decide +kernel
theorem dX0_timesToFaceAhead_21 : decode cX0_timesToFaceAhead 21 = .ok (.iconst 4, 1) := by decide +kernel
theorem dX0_timesToFaceAhead_22 : decode cX0_timesToFaceAhead 22 = .ok (.ireturn, 1) := by decide +kernel
theorem dX0_leastCommonMultiple_0 : decode cX0_leastCommonMultiple 0 = .ok (.iconst 1, 1) := by decide +kernel
theorem dX0_leastCommonMultiple_1 : decode cX0_leastCommonMultiple 1 = .ok (.istore_n 2, 1) := by decide +kernel
theorem dX0_leastCommonMultiple_2 : decode cX0_leastCommonMultiple 2 = .ok (.iload_n 2, 1) := by decide +kernel
theorem dX0_leastCommonMultiple_3 : decode cX0_leastCommonMultiple 3 = .ok (.iload_n 1, 1) := by decide +kernel
theorem dX0_leastCommonMultiple_4 : decode cX0_leastCommonMultiple 4 = .ok (.if_icmp .ge 21, 3) := by decide +kernel
theorem dX0_leastCommonMultiple_7 : decode cX0_leastCommonMultiple 7 = .ok (.iload_n 0, 1) := by decide +kernel
theorem dX0_leastCommonMultiple_8 : decode cX0_leastCommonMultiple 8 = .ok (.iload_n 2, 1) := by decide +kernel
theorem dX0_leastCommonMultiple_9 : decode cX0_leastCommonMultiple 9 = .ok (.imul, 1) := by decide +kernel
theorem dX0_leastCommonMultiple_10 : decode cX0_leastCommonMultiple 10 = .ok (.iload_n 1, 1) := by decide +kernel
theorem dX0_leastCommonMultiple_11 : decode cX0_leastCommonMultiple 11 = .ok (.irem, 1) := by decide +kernel
theorem dX0_leastCommonMultiple_12 : decode cX0_leastCommonMultiple 12 = .ok (.ifCond .ne 7, 3) := by decide +kernel
theorem dX0_leastCommonMultiple_15 : decode cX0_leastCommonMultiple 15 = .ok (.iload_n 0, 1) := by decide +kernel
theorem dX0_leastCommonMultiple_16 : decode cX0_leastCommonMultiple 16 = .ok (.iload_n 2, 1) := by decide +kernel
theorem dX0_leastCommonMultiple_17 : decode cX0_leastCommonMultiple 17 = .ok (.imul, 1) := by decide +kernel
theorem dX0_leastCommonMultiple_18 : decode cX0_leastCommonMultiple 18 = .ok (.ireturn, 1) := by decide +kernel
theorem dX0_leastCommonMultiple_19 : decode cX0_leastCommonMultiple 19 = .ok (.iinc 2 1, 3) := by decide +kernel
theorem dX0_leastCommonMultiple_22 : decode cX0_leastCommonMultiple 22 = .ok (.goto (-20), 3) := by decide +kernel
theorem dX0_leastCommonMultiple_25 : decode cX0_leastCommonMultiple 25 = .ok (.iload_n 0, 1) := by decide +kernel
theorem dX0_leastCommonMultiple_26 : decode cX0_leastCommonMultiple 26 = .ok (.iload_n 1, 1) := by decide +kernel
theorem dX0_leastCommonMultiple_27 : decode cX0_leastCommonMultiple 27 = .ok (.imul, 1) := by decide +kernel
theorem dX0_leastCommonMultiple_28 : decode cX0_leastCommonMultiple 28 = .ok (.ireturn, 1) := by decide +kernel
theorem dX1_init_0 : decode cX1_init 0 = .ok (.aload_n 0, 1) := by decide +kernel
theorem dX1_init_1 : decode cX1_init 1 = .ok (.invokespecial 3, 3) := by decide +kernel
theorem dX1_init_4 : decode cX1_init 4 = .ok (.aload_n 0, 1) := by decide +kernel
theorem dX1_init_5 : decode cX1_init 5 = .ok (.bipush 6, 2) := by decide +kernel
theorem dX1_init_7 : decode cX1_init 7 = .ok (.anewarray 11, 3) := by decide +kernel
theorem dX1_init_10 : decode cX1_init 10 = .ok (.putfield 13, 3) := by decide +kernel
theorem dX1_init_13 : decode cX1_init 13 = .ok (.iconst 0, 1) := by decide +kernel
theorem dX1_init_14 : decode cX1_init 14 = .ok (.istore_n 1, 1) := by decide +kernel
theorem dX1_init_15 : decode cX1_init 15 = .ok (.iload_n 1, 1) := by decide +kernel
theorem dX1_init_16 : decode cX1_init 16 = .ok (.bipush 6, 2) := by decide +kernel
theorem dX1_init_18 : decode cX1_init 18 = .ok (.if_icmp .ge 22, 3) := by decide +kernel
theorem dX1_init_21 : decode cX1_init 21 = .ok (.aload_n 0, 1) := by decide +kernel
theorem dX1_init_22 : decode cX1_init 22 = .ok (.getfield 13, 3) := by decide +kernel
theorem dX1_init_25 : decode cX1_init 25 = .ok (.iload_n 1, 1) := by decide +kernel
theorem dX1_init_26 : decode cX1_init 26 = .ok (.new 11, 3) := by decide +kernel
theorem dX1_init_29 : decode cX1_init 29 = .ok (.dup, 1) := by decide +kernel
theorem dX1_init_30 : decode cX1_init 30 = .ok (.invokespecial 17, 3) := by decide +kernel
theorem dX1_init_33 : decode cX1_init 33 = .ok (.aastore, 1) := by decide +kernel
theorem dX1_init_34 : decode cX1_init 34 = .ok (.iinc 1 1, 3) := by decide +kernel
theorem dX1_init_37 : decode cX1_init 37 = .ok (.goto (-22), 3) := by decide +kernel
theorem dX1_init_40 : decode cX1_init 40 = .ok (.return_, 1) := by decide +kernel
theorem dX1_prepare_0 : decode cX1_prepare 0 = .ok (.aload_n 0, 1) := by decide +kernel
theorem dX1_prepare_1 : decode cX1_prepare 1 = .ok (.getfield 13, 3) := by decide +kernel
theorem dX1_prepare_4 : decode cX1_prepare 4 = .ok (.aload_n 0, 1) := by decide +kernel
theorem dX1_prepare_5 : decode cX1_prepare 5 = .ok (.getfield 18, 3) := by decide +kernel
theorem dX1_prepare_8 : decode cX1_prepare 8 = .ok (.aaload, 1) := by decide +kernel
theorem dX1_prepare_9 : decode cX1_prepare 9 = .ok (.aload_n 1, 1) := by decide +kernel
theorem dX1_prepare_10 : decode cX1_prepare 10 = .ok (.invokevirtual 22, 3) := by decide +kernel
theorem dX1_prepare_13 : decode cX1_prepare 13 = .ok (.return_, 1) := by decide +kernel
theorem dX1_undo_0 : decode cX1_undo 0 = .ok (.aload_n 1, 1) := by decide +kernel
theorem dX1_undo_1 : decode cX1_undo 1 = .ok (.aload_n 0, 1) := by decide +kernel
theorem dX1_undo_2 : decode cX1_undo 2 = .ok (.getfield 13, 3) := by decide +kernel
theorem dX1_undo_5 : decode cX1_undo 5 = .ok (.aload_n 0, 1) := by decide +kernel
theorem dX1_undo_6 : decode cX1_undo 6 = .ok (.getfield 18, 3) := by decide +kernel
theorem dX1_undo_9 : decode cX1_undo 9 = .ok (.aaload, 1) := by decide +kernel
theorem dX1_undo_10 : decode cX1_undo 10 = .ok (.invokevirtual 22, 3) := by decide +kernel
theorem dX1_undo_13 : decode cX1_undo 13 = .ok (.return_, 1) := by decide +kernel
theorem dX1_confirm_0 : decode cX1_confirm 0 = .ok (.aload_n 0, 1) := by decide +kernel
theorem dX1_confirm_1 : decode cX1_confirm 1 = .ok (.aload_n 0, 1) := by decide +kernel
theorem dX1_confirm_2 : decode cX1_confirm 2 = .ok (.getfield 18, 3) := by decide +kernel
theorem dX1_confirm_5 : decode cX1_confirm 5 = .ok (.iconst 1, 1) := by decide +kernel
theorem dX1_confirm_6 : decode cX1_confirm 6 = .ok (.iadd, 1) := by decide +kernel
theorem dX1_confirm_7 : decode cX1_confirm 7 = .ok (.bipush 6, 2) := by decide +kernel
theorem dX1_confirm_9 : decode cX1_confirm 9 = .ok (.irem, 1) := by decide +kernel
theorem dX1_confirm_10 : decode cX1_confirm 10 = .ok (.putfield 18, 3) := by decide +kernel
theorem dX1_confirm_13 : decode cX1_confirm 13 = .ok (.aload_n 0, 1) := by decide +kernel
theorem dX1_confirm_14 : decode cX1_confirm 14 = .ok (.aload_n 0, 1) := by decide +kernel
theorem dX1_confirm_15 : decode cX1_confirm 15 = .ok (.getfield 26, 3) := by decide +kernel
theorem dX1_confirm_18 : decode cX1_confirm 18 = .ok (.iconst 1, 1) := by decide +kernel
theorem dX1_confirm_19 : decode cX1_confirm 19 = .ok (.iadd, 1) := by decide +kernel
theorem dX1_confirm_20 : decode cX1_confirm 20 = .ok (.iconst 5, 1) := by decide +kernel
theorem dX1_confirm_21 : decode cX1_confirm 21 = .ok (.invokestatic 29, 3) := by decide +kernel
theorem dX1_confirm_24 : decode cX1_confirm 24 = .ok (.putfield 26, 3) := by decide +kernel
theorem dX1_confirm_27 : decode cX1_confirm 27 = .ok (.return_, 1) := by decide +kernel
theorem dX1_takeBack_0 : decode cX1_takeBack 0 = .ok (.aload_n 0, 1) := by decide +kernel
theorem dX1_takeBack_1 : decode cX1_takeBack 1 = .ok (.getfield 26, 3) := by decide +kernel
theorem dX1_takeBack_4 : decode cX1_takeBack 4 = .ok (.ifCond .ne 6, 3) := by decide +kernel
theorem dX1_takeBack_7 : decode cX1_takeBack 7 = .ok (.bipush (-3), 2) := by decide +kernel
theorem dX1_takeBack_9 : decode cX1_takeBack 9 = .ok (.ireturn, 1) := by decide +kernel
theorem dX1_takeBack_10 : decode cX1_takeBack 10 = .ok (.aload_n 0, 1) := by decide +kernel
theorem dX1_takeBack_11 : decode cX1_takeBack 11 = .ok (.aload_n 0, 1) := by decide +kernel
theorem dX1_takeBack_12 : decode cX1_takeBack 12 = .ok (.getfield 18, 3) := by decide +kernel
theorem dX1_takeBack_15 : decode cX1_takeBack 15 = .ok (.bipush 6, 2) := by decide +kernel
theorem dX1_takeBack_17 : decode cX1_takeBack 17 = .ok (.iadd, 1) := by decide +kernel
theorem dX1_takeBack_18 : decode cX1_takeBack 18 = .ok (.iconst 1, 1) := by decide +kernel
theorem dX1_takeBack_19 : decode cX1_takeBack 19 = .ok (.isub, 1) := by decide +kernel
theorem dX1_takeBack_20 : decode cX1_takeBack 20 = .ok (.bipush 6, 2) := by decide +kernel
theorem dX1_takeBack_22 : decode cX1_takeBack 22 = .ok (.irem, 1) := by decide +kernel
theorem dX1_takeBack_23 : decode cX1_takeBack 23 = .ok (.putfield 18, 3) := by decide +kernel
theorem dX1_takeBack_26 : decode cX1_takeBack 26 = .ok (.aload_n 0, 1) := by decide +kernel
theorem dX1_takeBack_27 : decode cX1_takeBack 27 = .ok (.dup, 1) := by decide +kernel
theorem dX1_takeBack_28 : decode cX1_takeBack 28 = .ok (.getfield 26, 3) := by decide +kernel
theorem dX1_takeBack_31 : decode cX1_takeBack 31 = .ok (.iconst 1, 1) := by decide +kernel
theorem dX1_takeBack_32 : decode cX1_takeBack 32 = .ok (.isub, 1) := by decide +kernel
theorem dX1_takeBack_33 : decode cX1_takeBack 33 = .ok (.putfield 26, 3) := by decide +kernel
theorem dX1_takeBack_36 : decode cX1_takeBack 36 = .ok (.aload_n 1, 1) := by decide +kernel
theorem dX1_takeBack_37 : decode cX1_takeBack 37 = .ok (.aload_n 0, 1) := by decide +kernel
theorem dX1_takeBack_38 : decode cX1_takeBack 38 = .ok (.getfield 13, 3) := by decide +kernel
theorem dX1_takeBack_41 : decode cX1_takeBack 41 = .ok (.aload_n 0, 1) := by decide +kernel
theorem dX1_takeBack_42 : decode cX1_takeBack 42 = .ok (.getfield 18, 3) := by decide +kernel
theorem dX1_takeBack_45 : decode cX1_takeBack 45 = .ok (.aaload, 1) := by decide +kernel
theorem dX1_takeBack_46 : decode cX1_takeBack 46 = .ok (.invokevirtual 22, 3) := by decide +kernel
theorem dX1_takeBack_49 : decode cX1_takeBack 49 = .ok (.aload_n 0, 1) := by decide +kernel
theorem dX1_takeBack_50 : decode cX1_takeBack 50 = .ok (.getfield 26, 3) := by decide +kernel
theorem dX1_takeBack_53 : decode cX1_takeBack 53 = .ok (.ireturn, 1) := by decide +kernel
theorem dX2_init_0 : decode cX2_init 0 = .ok (.aload_n 0, 1) := by decide +kernel
theorem dX2_init_1 : decode cX2_init 1 = .ok (.invokespecial 3, 3) := by decide +kernel
theorem dX2_init_4 : decode cX2_init 4 = .ok (.aload_n 0, 1) := by decide +kernel
theorem dX2_init_5 : decode cX2_init 5 = .ok (.bipush 9, 2) := by decide +kernel
theorem dX2_init_7 : decode cX2_init 7 = .ok (.bipush 48, 2) := by decide +kernel
theorem dX2_init_9 : decode cX2_init 9 = .ok (.multianewarray 9 2, 4) := by decide +kernel
theorem dX2_init_13 : decode cX2_init 13 = .ok (.putfield 11, 3) := by decide +kernel
theorem dX2_init_16 : decode cX2_init 16 = .ok (.aload_n 0, 1) := by decide +kernel
theorem dX2_init_17 : decode cX2_init 17 = .ok (.bipush 8, 2) := by decide +kernel
theorem dX2_init_19 : decode cX2_init 19 = .ok (.newarray .int, 2) := by decide +kernel
theorem dX2_init_21 : decode cX2_init 21 = .ok (.putfield 16, 3) := by decide +kernel
theorem dX2_init_24 : decode cX2_init 24 = .ok (.aload_n 0, 1) := by decide +kernel
theorem dX2_init_25 : decode cX2_init 25 = .ok (.bipush 8, 2) := by decide +kernel
theorem dX2_init_27 : decode cX2_init 27 = .ok (.newarray .int, 2) := by decide +kernel
theorem dX2_init_29 : decode cX2_init 29 = .ok (.putfield 20, 3) := by decide +kernel
theorem dX2_init_32 : decode cX2_init 32 = .ok (.aload_n 0, 1) := by decide +kernel
theorem dX2_init_33 : decode cX2_init 33 = .ok (.bipush 6, 2) := by decide +kernel
theorem dX2_init_35 : decode cX2_init 35 = .ok (.bipush 8, 2) := by decide +kernel
theorem dX2_init_37 : decode cX2_init 37 = .ok (.multianewarray 9 2, 4) := by decide +kernel
theorem dX2_init_41 : decode cX2_init 41 = .ok (.putfield 23, 3) := by decide +kernel
theorem dX2_init_44 : decode cX2_init 44 = .ok (.aload_n 0, 1) := by decide +kernel
theorem dX2_init_45 : decode cX2_init 45 = .ok (.bipush 6, 2) := by decide +kernel
theorem dX2_init_47 : decode cX2_init 47 = .ok (.newarray .int, 2) := by decide +kernel
theorem dX2_init_49 : decode cX2_init 49 = .ok (.putfield 26, 3) := by decide +kernel
theorem dX2_init_52 : decode cX2_init 52 = .ok (.aload_n 0, 1) := by decide +kernel
theorem dX2_init_53 : decode cX2_init 53 = .ok (.bipush 8, 2) := by decide +kernel
theorem dX2_init_55 : decode cX2_init 55 = .ok (.newarray .int, 2) := by decide +kernel
theorem dX2_init_57 : decode cX2_init 57 = .ok (.putfield 29, 3) := by decide +kernel
theorem dX2_init_60 : decode cX2_init 60 = .ok (.aload_n 0, 1) := by decide +kernel
theorem dX2_init_61 : decode cX2_init 61 = .ok (.iconst 5, 1) := by decide +kernel
theorem dX2_init_62 : decode cX2_init 62 = .ok (.newarray .int, 2) := by decide +kernel
theorem dX2_init_64 : decode cX2_init 64 = .ok (.putfield 32, 3) := by decide +kernel
theorem dX2_init_67 : decode cX2_init 67 = .ok (.aload_n 0, 1) := by decide +kernel
theorem dX2_init_68 : decode cX2_init 68 = .ok (.bipush 8, 2) := by decide +kernel
theorem dX2_init_70 : decode cX2_init 70 = .ok (.newarray .int, 2) := by decide +kernel
theorem dX2_init_72 : decode cX2_init 72 = .ok (.putfield 35, 3) := by decide +kernel
theorem dX2_init_75 : decode cX2_init 75 = .ok (.iconst 0, 1) := by decide +kernel
theorem dX2_init_76 : decode cX2_init 76 = .ok (.istore_n 1, 1) := by decide +kernel
theorem dX2_init_77 : decode cX2_init 77 = .ok (.iload_n 1, 1) := by decide +kernel
theorem dX2_init_78 : decode cX2_init 78 = .ok (.bipush 48, 2) := by decide +kernel
theorem dX2_init_80 : decode cX2_init 80 = .ok (.if_icmp .ge 19, 3) := by decide +kernel
theorem dX2_init_83 : decode cX2_init 83 = .ok (.aload_n 0, 1) := by decide +kernel
theorem dX2_init_84 : decode cX2_init 84 = .ok (.getfield 11, 3) := by decide +kernel
theorem dX2_init_87 : decode cX2_init 87 = .ok (.bipush 8, 2) := by decide +kernel
theorem dX2_init_89 : decode cX2_init 89 = .ok (.aaload, 1) := by decide +kernel
theorem dX2_init_90 : decode cX2_init 90 = .ok (.iload_n 1, 1) := by decide +kernel
theorem dX2_init_91 : decode cX2_init 91 = .ok (.iload_n 1, 1) := by decide +kernel
theorem dX2_init_92 : decode cX2_init 92 = .ok (.iastore, 1) := by decide +kernel
theorem dX2_init_93 : decode cX2_init 93 = .ok (.iinc 1 1, 3) := by decide +kernel
theorem dX2_init_96 : decode cX2_init 96 = .ok (.goto (-19), 3) := by decide +kernel
theorem dX2_init_99 : decode cX2_init 99 = .ok (.return_, 1) := by decide +kernel
theorem dX2_shortest_0 : decode cX2_shortest 0 = .ok (.aload_n 0, 1) := by decide +kernel
theorem dX2_shortest_1 : decode cX2_shortest 1 = .ok (.aload_n 1, 1) := by decide +kernel
theorem dX2_shortest_2 : decode cX2_shortest 2 = .ok (.iload_n 2, 1) := by decide +kernel
theorem dX2_shortest_3 : decode cX2_shortest 3 = .ok (.invokevirtual 38, 3) := by decide +kernel
theorem dX2_shortest_6 : decode cX2_shortest 6 = .ok (.aload_n 0, 1) := by decide +kernel
theorem dX2_shortest_7 : decode cX2_shortest 7 = .ok (.iload 4, 2) := by decide +kernel
theorem dX2_shortest_9 : decode cX2_shortest 9 = .ok (.putfield 42, 3) := by decide +kernel
theorem dX2_shortest_12 : decode cX2_shortest 12 = .ok (.aload_n 0, 1) := by decide +kernel
theorem dX2_shortest_13 : decode cX2_shortest 13 = .ok (.iconst 0, 1) := by decide +kernel
theorem dX2_shortest_14 : decode cX2_shortest 14 = .ok (.putfield 46, 3) := by decide +kernel
theorem dX2_shortest_17 : decode cX2_shortest 17 = .ok (.aload_n 0, 1) := by decide +kernel
theorem dX2_shortest_18 : decode cX2_shortest 18 = .ok (.iconst 1, 1) := by decide +kernel
theorem dX2_shortest_19 : decode cX2_shortest 19 = .ok (.putfield 50, 3) := by decide +kernel
theorem dX2_shortest_22 : decode cX2_shortest 22 = .ok (.iconst 0, 1) := by decide +kernel
theorem dX2_shortest_23 : decode cX2_shortest 23 = .ok (.istore 5, 2) := by decide +kernel
theorem dX2_shortest_25 : decode cX2_shortest 25 = .ok (.iload 5, 2) := by decide +kernel
theorem dX2_shortest_27 : decode cX2_shortest 27 = .ok (.iload_n 3, 1) := by decide +kernel
theorem dX2_shortest_28 : decode cX2_shortest 28 = .ok (.if_icmp .gt 21, 3) := by decide +kernel
theorem dX2_shortest_31 : decode cX2_shortest 31 = .ok (.aload_n 0, 1) := by decide +kernel
theorem dX2_shortest_32 : decode cX2_shortest 32 = .ok (.iload 5, 2) := by decide +kernel
theorem dX2_shortest_34 : decode cX2_shortest 34 = .ok (.invokevirtual 53, 3) := by decide +kernel
theorem dX2_shortest_37 : decode cX2_shortest 37 = .ok (.ifCond .le 6, 3) := by decide +kernel
theorem dX2_shortest_40 : decode cX2_shortest 40 = .ok (.iload 5, 2) := by decide +kernel
theorem dX2_shortest_42 : decode cX2_shortest 42 = .ok (.ireturn, 1) := by decide +kernel
theorem dX2_shortest_43 : decode cX2_shortest 43 = .ok (.iinc 5 1, 3) := by decide +kernel
theorem dX2_shortest_46 : decode cX2_shortest 46 = .ok (.goto (-21), 3) := by decide +kernel
theorem dX2_shortest_49 : decode cX2_shortest 49 = .ok (.iconst (-1), 1) := by decide +kernel
theorem dX2_shortest_50 : decode cX2_shortest 50 = .ok (.ireturn, 1) := by decide +kernel
theorem dX2_howMany_0 : decode cX2_howMany 0 = .ok (.aload_n 0, 1) := by decide +kernel
theorem dX2_howMany_1 : decode cX2_howMany 1 = .ok (.aload_n 1, 1) := by decide +kernel
theorem dX2_howMany_2 : decode cX2_howMany 2 = .ok (.iload_n 2, 1) := by decide +kernel
theorem dX2_howMany_3 : decode cX2_howMany 3 = .ok (.invokevirtual 38, 3) := by decide +kernel
theorem dX2_howMany_6 : decode cX2_howMany 6 = .ok (.aload_n 0, 1) := by decide +kernel
theorem dX2_howMany_7 : decode cX2_howMany 7 = .ok (.iload_n 3, 1) := by decide +kernel
theorem dX2_howMany_8 : decode cX2_howMany 8 = .ok (.putfield 42, 3) := by decide +kernel
theorem dX2_howMany_11 : decode cX2_howMany 11 = .ok (.aload_n 0, 1) := by decide +kernel
theorem dX2_howMany_12 : decode cX2_howMany 12 = .ok (.iconst 1, 1) := by decide +kernel
theorem dX2_howMany_13 : decode cX2_howMany 13 = .ok (.putfield 46, 3) := by decide +kernel
theorem dX2_howMany_16 : decode cX2_howMany 16 = .ok (.aload_n 0, 1) := by decide +kernel
theorem dX2_howMany_17 : decode cX2_howMany 17 = .ok (.ldc 57, 2) := by decide +kernel
theorem dX2_howMany_19 : decode cX2_howMany 19 = .ok (.putfield 50, 3) := by decide +kernel
theorem dX2_howMany_22 : decode cX2_howMany 22 = .ok (.aload_n 0, 1) := by decide +kernel
theorem dX2_howMany_23 : decode cX2_howMany 23 = .ok (.iload_n 3, 1) := by decide +kernel
theorem dX2_howMany_24 : decode cX2_howMany 24 = .ok (.invokevirtual 53, 3) := by decide +kernel
theorem dX2_howMany_27 : decode cX2_howMany 27 = .ok (.ireturn, 1) := by decide +kernel
theorem dX2_callOfRow_0 : decode cX2_callOfRow 0 = .ok (.iload_n 1, 1) := by decide +kernel
theorem dX2_callOfRow_1 : decode cX2_callOfRow 1 = .ok (.iconst 5, 1) := by decide +kernel
theorem dX2_callOfRow_2 : decode cX2_callOfRow 2 = .ok (.invokestatic 58, 3) := by decide +kernel
theorem dX2_callOfRow_5 : decode cX2_callOfRow 5 = .ok (.ifCond .eq 12, 3) := by decide +kernel
theorem dX2_callOfRow_8 : decode cX2_callOfRow 8 = .ok (.aload_n 0, 1) := by decide +kernel
theorem dX2_callOfRow_9 : decode cX2_callOfRow 9 = .ok (.getfield 32, 3) := by decide +kernel
theorem dX2_callOfRow_12 : decode cX2_callOfRow 12 = .ok (.iload_n 1, 1) := by decide +kernel
theorem dX2_callOfRow_13 : decode cX2_callOfRow 13 = .ok (.iaload, 1) := by decide +kernel
theorem dX2_callOfRow_14 : decode cX2_callOfRow 14 = .ok (.goto 4, 3) := by decide +kernel
theorem dX2_callOfRow_17 : decode cX2_callOfRow 17 = .ok (.iconst (-1), 1) := by decide +kernel
theorem dX2_callOfRow_18 : decode cX2_callOfRow 18 = .ok (.ireturn, 1) := by decide +kernel
theorem dX2_start_0 : decode cX2_start 0 = .ok (.aload_n 0, 1) := by decide +kernel
theorem dX2_start_1 : decode cX2_start 1 = .ok (.iload_n 2, 1) := by decide +kernel
theorem dX2_start_2 : decode cX2_start 2 = .ok (.putfield 62, 3) := by decide +kernel
theorem dX2_start_5 : decode cX2_start 5 = .ok (.aload_n 0, 1) := by decide +kernel
theorem dX2_start_6 : decode cX2_start 6 = .ok (.aload_n 1, 1) := by decide +kernel
theorem dX2_start_7 : decode cX2_start 7 = .ok (.getfield 65, 3) := by decide +kernel
theorem dX2_start_10 : decode cX2_start 10 = .ok (.putfield 70, 3) := by decide +kernel
theorem dX2_start_13 : decode cX2_start 13 = .ok (.aload_n 0, 1) := by decide +kernel
theorem dX2_start_14 : decode cX2_start 14 = .ok (.aload_n 1, 1) := by decide +kernel
theorem dX2_start_15 : decode cX2_start 15 = .ok (.getfield 71, 3) := by decide +kernel
theorem dX2_start_18 : decode cX2_start 18 = .ok (.putfield 74, 3) := by decide +kernel
theorem dX2_start_21 : decode cX2_start 21 = .ok (.aload_n 1, 1) := by decide +kernel
theorem dX2_start_22 : decode cX2_start 22 = .ok (.getfield 75, 3) := by decide +kernel
theorem dX2_start_25 : decode cX2_start 25 = .ok (.iconst 0, 1) := by decide +kernel
theorem dX2_start_26 : decode cX2_start 26 = .ok (.aload_n 0, 1) := by decide +kernel
theorem dX2_start_27 : decode cX2_start 27 = .ok (.getfield 29, 3) := by decide +kernel
theorem dX2_start_30 : decode cX2_start 30 = .ok (.iconst 0, 1) := by decide +kernel
theorem dX2_start_31 : decode cX2_start 31 = .ok (.bipush 8, 2) := by decide +kernel
theorem dX2_start_33 : decode cX2_start 33 = .ok (.invokestatic 76, 3) := by decide +kernel
theorem dX2_start_36 : decode cX2_start 36 = .ok (.aload_n 1, 1) := by decide +kernel
theorem dX2_start_37 : decode cX2_start 37 = .ok (.getfield 82, 3) := by decide +kernel
theorem dX2_start_40 : decode cX2_start 40 = .ok (.iconst 0, 1) := by decide +kernel
theorem dX2_start_41 : decode cX2_start 41 = .ok (.aload_n 0, 1) := by decide +kernel
theorem dX2_start_42 : decode cX2_start 42 = .ok (.getfield 23, 3) := by decide +kernel
theorem dX2_start_45 : decode cX2_start 45 = .ok (.iconst 0, 1) := by decide +kernel
theorem dX2_start_46 : decode cX2_start 46 = .ok (.aaload, 1) := by decide +kernel
theorem dX2_start_47 : decode cX2_start 47 = .ok (.iconst 0, 1) := by decide +kernel
theorem dX2_start_48 : decode cX2_start 48 = .ok (.bipush 8, 2) := by decide +kernel
theorem dX2_start_50 : decode cX2_start 50 = .ok (.invokestatic 76, 3) := by decide +kernel
theorem dX2_start_53 : decode cX2_start 53 = .ok (.aload_n 0, 1) := by decide +kernel
theorem dX2_start_54 : decode cX2_start 54 = .ok (.getfield 26, 3) := by decide +kernel
theorem dX2_start_57 : decode cX2_start 57 = .ok (.iconst 0, 1) := by decide +kernel
theorem dX2_start_58 : decode cX2_start 58 = .ok (.aload_n 0, 1) := by decide +kernel
theorem dX2_start_59 : decode cX2_start 59 = .ok (.getfield 23, 3) := by decide +kernel
theorem dX2_start_62 : decode cX2_start 62 = .ok (.iconst 0, 1) := by decide +kernel
theorem dX2_start_63 : decode cX2_start 63 = .ok (.aaload, 1) := by decide +kernel
theorem dX2_start_64 : decode cX2_start 64 = .ok (.aload_n 0, 1) := by decide +kernel
theorem dX2_start_65 : decode cX2_start 65 = .ok (.getfield 70, 3) := by decide +kernel
theorem dX2_start_68 : decode cX2_start 68 = .ok (.invokestatic 85, 3) := by decide +kernel
theorem dX2_start_71 : decode cX2_start 71 = .ok (.iastore, 1) := by decide +kernel
theorem dX2_start_72 : decode cX2_start 72 = .ok (.aload_n 0, 1) := by decide +kernel
theorem dX2_start_73 : decode cX2_start 73 = .ok (.getfield 35, 3) := by decide +kernel
theorem dX2_start_76 : decode cX2_start 76 = .ok (.iconst 0, 1) := by decide +kernel
theorem dX2_start_77 : decode cX2_start 77 = .ok (.invokestatic 89, 3) := by decide +kernel
theorem dX2_start_80 : decode cX2_start 80 = .ok (.iconst 0, 1) := by decide +kernel
theorem dX2_start_81 : decode cX2_start 81 = .ok (.istore_n 3, 1) := by decide +kernel
theorem dX2_start_82 : decode cX2_start 82 = .ok (.iload_n 3, 1) := by decide +kernel
theorem dX2_start_83 : decode cX2_start 83 = .ok (.aload_n 0, 1) := by decide +kernel
theorem dX2_start_84 : decode cX2_start 84 = .ok (.getfield 74, 3) := by decide +kernel
theorem dX2_start_87 : decode cX2_start 87 = .ok (.if_icmp .ge 77, 3) := by decide +kernel
theorem dX2_start_90 : decode cX2_start 90 = .ok (.aload_n 0, 1) := by decide +kernel
theorem dX2_start_91 : decode cX2_start 91 = .ok (.getfield 16, 3) := by decide +kernel
theorem dX2_start_94 : decode cX2_start 94 = .ok (.iload_n 3, 1) := by decide +kernel
theorem dX2_start_95 : decode cX2_start 95 = .ok (.aload_n 1, 1) := by decide +kernel
theorem dX2_start_96 : decode cX2_start 96 = .ok (.getfield 95, 3) := by decide +kernel
theorem dX2_start_99 : decode cX2_start 99 = .ok (.iload_n 3, 1) := by decide +kernel
theorem dX2_start_100 : decode cX2_start 100 = .ok (.aaload, 1) := by decide +kernel
theorem dX2_start_101 : decode cX2_start 101 = .ok (.iconst 1, 1) := by decide +kernel
theorem dX2_start_102 : decode cX2_start 102 = .ok (.invokevirtual 99, 3) := by decide +kernel
theorem dX2_start_105 : decode cX2_start 105 = .ok (.iastore, 1) := by decide +kernel
theorem dX2_start_106 : decode cX2_start 106 = .ok (.aload_n 0, 1) := by decide +kernel
theorem dX2_start_107 : decode cX2_start 107 = .ok (.getfield 20, 3) := by decide +kernel
theorem dX2_start_110 : decode cX2_start 110 = .ok (.iload_n 3, 1) := by decide +kernel
theorem dX2_start_111 : decode cX2_start 111 = .ok (.aload_n 1, 1) := by decide +kernel
theorem dX2_start_112 : decode cX2_start 112 = .ok (.getfield 95, 3) := by decide +kernel
theorem dX2_start_115 : decode cX2_start 115 = .ok (.iload_n 3, 1) := by decide +kernel
theorem dX2_start_116 : decode cX2_start 116 = .ok (.aaload, 1) := by decide +kernel
theorem dX2_start_117 : decode cX2_start 117 = .ok (.iconst 2, 1) := by decide +kernel
theorem dX2_start_118 : decode cX2_start 118 = .ok (.invokevirtual 99, 3) := by decide +kernel
theorem dX2_start_121 : decode cX2_start 121 = .ok (.iastore, 1) := by decide +kernel
theorem dX2_start_122 : decode cX2_start 122 = .ok (.iconst 0, 1) := by decide +kernel
theorem dX2_start_123 : decode cX2_start 123 = .ok (.istore 4, 2) := by decide +kernel
theorem dX2_start_125 : decode cX2_start 125 = .ok (.iload 4, 2) := by decide +kernel
theorem dX2_start_127 : decode cX2_start 127 = .ok (.bipush 48, 2) := by decide +kernel
theorem dX2_start_129 : decode cX2_start 129 = .ok (.if_icmp .ge 29, 3) := by decide +kernel
theorem dX2_start_132 : decode cX2_start 132 = .ok (.aload_n 0, 1) := by decide +kernel
theorem dX2_start_133 : decode cX2_start 133 = .ok (.getfield 11, 3) := by decide +kernel
theorem dX2_start_136 : decode cX2_start 136 = .ok (.iload_n 3, 1) := by decide +kernel
theorem dX2_start_137 : decode cX2_start 137 = .ok (.aaload, 1) := by decide +kernel
theorem dX2_start_138 : decode cX2_start 138 = .ok (.iload 4, 2) := by decide +kernel
theorem dX2_start_140 : decode cX2_start 140 = .ok (.aload_n 1, 1) := by decide +kernel
theorem dX2_start_141 : decode cX2_start 141 = .ok (.getfield 95, 3) := by decide +kernel
theorem dX2_start_144 : decode cX2_start 144 = .ok (.iload_n 3, 1) := by decide +kernel
theorem dX2_start_145 : decode cX2_start 145 = .ok (.aaload, 1) := by decide +kernel
theorem dX2_start_146 : decode cX2_start 146 = .ok (.iload 4, 2) := by decide +kernel
theorem dX2_start_148 : decode cX2_start 148 = .ok (.invokevirtual 104, 3) := by decide +kernel
theorem dX2_start_151 : decode cX2_start 151 = .ok (.iastore, 1) := by decide +kernel
theorem dX2_start_152 : decode cX2_start 152 = .ok (.iinc 4 1, 3) := by decide +kernel
theorem dX2_start_155 : decode cX2_start 155 = .ok (.goto (-30), 3) := by decide +kernel
theorem dX2_start_158 : decode cX2_start 158 = .ok (.iinc 3 1, 3) := by decide +kernel
theorem dX2_start_161 : decode cX2_start 161 = .ok (.goto (-79), 3) := by decide +kernel
theorem dX2_start_164 : decode cX2_start 164 = .ok (.return_, 1) := by decide +kernel
theorem dX2_rowsOfLength_0 : decode cX2_rowsOfLength 0 = .ok (.aload_n 0, 1) := by decide +kernel
theorem dX2_rowsOfLength_1 : decode cX2_rowsOfLength 1 = .ok (.iload_n 1, 1) := by decide +kernel
theorem dX2_rowsOfLength_2 : decode cX2_rowsOfLength 2 = .ok (.putfield 107, 3) := by decide +kernel
theorem dX2_rowsOfLength_5 : decode cX2_rowsOfLength 5 = .ok (.iload_n 1, 1) := by decide +kernel
theorem dX2_rowsOfLength_6 : decode cX2_rowsOfLength 6 = .ok (.ifCond .ne 19, 3) := by decide +kernel
theorem dX2_rowsOfLength_9 : decode cX2_rowsOfLength 9 = .ok (.aload_n 0, 1) := by decide +kernel
theorem dX2_rowsOfLength_10 : decode cX2_rowsOfLength 10 = .ok (.bipush 8, 2) := by decide +kernel
theorem dX2_rowsOfLength_12 : decode cX2_rowsOfLength 12 = .ok (.iconst 0, 1) := by decide +kernel
theorem dX2_rowsOfLength_13 : decode cX2_rowsOfLength 13 = .ok (.invokevirtual 110, 3) := by decide +kernel
theorem dX2_rowsOfLength_16 : decode cX2_rowsOfLength 16 = .ok (.ifCond .eq 7, 3) := by decide +kernel
theorem dX2_rowsOfLength_19 : decode cX2_rowsOfLength 19 = .ok (.iconst 1, 1) := by decide +kernel
theorem dX2_rowsOfLength_20 : decode cX2_rowsOfLength 20 = .ok (.goto 4, 3) := by decide +kernel
theorem dX2_rowsOfLength_23 : decode cX2_rowsOfLength 23 = .ok (.iconst 0, 1) := by decide +kernel
theorem dX2_rowsOfLength_24 : decode cX2_rowsOfLength 24 = .ok (.ireturn, 1) := by decide +kernel
theorem dX2_rowsOfLength_25 : decode cX2_rowsOfLength 25 = .ok (.aload_n 0, 1) := by decide +kernel
theorem dX2_rowsOfLength_26 : decode cX2_rowsOfLength 26 = .ok (.iconst 0, 1) := by decide +kernel
theorem dX2_rowsOfLength_27 : decode cX2_rowsOfLength 27 = .ok (.invokestatic 113, 3) := by decide +kernel
theorem dX2_rowsOfLength_30 : decode cX2_rowsOfLength 30 = .ok (.ireturn, 1) := by decide +kernel
theorem dX2_walk_0 : decode cX2_walk 0 = .ok (.iconst 0, 1) := by decide +kernel
theorem dX2_walk_1 : decode cX2_walk 1 = .ok (.istore_n 2, 1) := by decide +kernel
theorem dX2_walk_2 : decode cX2_walk 2 = .ok (.iconst 0, 1) := by decide +kernel
theorem dX2_walk_3 : decode cX2_walk 3 = .ok (.istore_n 3, 1) := by decide +kernel
theorem dX2_walk_4 : decode cX2_walk 4 = .ok (.iload_n 1, 1) := by decide +kernel
theorem dX2_walk_5 : decode cX2_walk 5 = .ok (.aload_n 0, 1) := by decide +kernel
theorem dX2_walk_6 : decode cX2_walk 6 = .ok (.getfield 107, 3) := by decide +kernel
theorem dX2_walk_9 : decode cX2_walk 9 = .ok (.if_icmp .ge 110, 3) := by decide +kernel
theorem dX2_walk_12 : decode cX2_walk 12 = .ok (.iload_n 3, 1) := by decide +kernel
theorem dX2_walk_13 : decode cX2_walk 13 = .ok (.aload_n 0, 1) := by decide +kernel
theorem dX2_walk_14 : decode cX2_walk 14 = .ok (.getfield 74, 3) := by decide +kernel
theorem dX2_walk_17 : decode cX2_walk 17 = .ok (.if_icmp .ge 102, 3) := by decide +kernel
theorem dX2_walk_20 : decode cX2_walk 20 = .ok (.iload_n 2, 1) := by decide +kernel
theorem dX2_walk_21 : decode cX2_walk 21 = .ok (.aload_n 0, 1) := by decide +kernel
theorem dX2_walk_22 : decode cX2_walk 22 = .ok (.getfield 50, 3) := by decide +kernel
theorem dX2_walk_25 : decode cX2_walk 25 = .ok (.if_icmp .ge 94, 3) := by decide +kernel
theorem dX2_walk_28 : decode cX2_walk 28 = .ok (.aload_n 0, 1) := by decide +kernel
theorem dX2_walk_29 : decode cX2_walk 29 = .ok (.iload_n 3, 1) := by decide +kernel
theorem dX2_walk_30 : decode cX2_walk 30 = .ok (.iload_n 1, 1) := by decide +kernel
theorem dX2_walk_31 : decode cX2_walk 31 = .ok (.invokevirtual 117, 3) := by decide +kernel
theorem dX2_walk_34 : decode cX2_walk 34 = .ok (.ifCond .ne 6, 3) := by decide +kernel
theorem dX2_walk_37 : decode cX2_walk 37 = .ok (.goto 76, 3) := by decide +kernel
theorem dX2_walk_40 : decode cX2_walk 40 = .ok (.aload_n 0, 1) := by decide +kernel
theorem dX2_walk_41 : decode cX2_walk 41 = .ok (.getfield 32, 3) := by decide +kernel
theorem dX2_walk_44 : decode cX2_walk 44 = .ok (.iload_n 1, 1) := by decide +kernel
theorem dX2_walk_45 : decode cX2_walk 45 = .ok (.iload_n 3, 1) := by decide +kernel
theorem dX2_walk_46 : decode cX2_walk 46 = .ok (.iastore, 1) := by decide +kernel
theorem dX2_walk_47 : decode cX2_walk 47 = .ok (.iload_n 1, 1) := by decide +kernel
theorem dX2_walk_48 : decode cX2_walk 48 = .ok (.iconst 1, 1) := by decide +kernel
theorem dX2_walk_49 : decode cX2_walk 49 = .ok (.iadd, 1) := by decide +kernel
theorem dX2_walk_50 : decode cX2_walk 50 = .ok (.aload_n 0, 1) := by decide +kernel
theorem dX2_walk_51 : decode cX2_walk 51 = .ok (.getfield 107, 3) := by decide +kernel
theorem dX2_walk_54 : decode cX2_walk 54 = .ok (.if_icmp .ne 23, 3) := by decide +kernel
theorem dX2_walk_57 : decode cX2_walk 57 = .ok (.iload_n 2, 1) := by decide +kernel
theorem dX2_walk_58 : decode cX2_walk 58 = .ok (.aload_n 0, 1) := by decide +kernel
theorem dX2_walk_59 : decode cX2_walk 59 = .ok (.iload_n 3, 1) := by decide +kernel
theorem dX2_walk_60 : decode cX2_walk 60 = .ok (.iload_n 1, 1) := by decide +kernel
theorem dX2_walk_61 : decode cX2_walk 61 = .ok (.invokevirtual 110, 3) := by decide +kernel
theorem dX2_walk_64 : decode cX2_walk 64 = .ok (.ifCond .eq 7, 3) := by decide +kernel
theorem dX2_walk_67 : decode cX2_walk 67 = .ok (.iconst 1, 1) := by decide +kernel
theorem dX2_walk_68 : decode cX2_walk 68 = .ok (.goto 4, 3) := by decide +kernel
theorem dX2_walk_71 : decode cX2_walk 71 = .ok (.iconst 0, 1) := by decide +kernel
theorem dX2_walk_72 : decode cX2_walk 72 = .ok (.iadd, 1) := by decide +kernel
theorem dX2_walk_73 : decode cX2_walk 73 = .ok (.istore_n 2, 1) := by decide +kernel
theorem dX2_walk_74 : decode cX2_walk 74 = .ok (.goto 39, 3) := by decide +kernel
theorem dX2_walk_77 : decode cX2_walk 77 = .ok (.aload_n 0, 1) := by decide +kernel
theorem dX2_walk_78 : decode cX2_walk 78 = .ok (.iload_n 3, 1) := by decide +kernel
theorem dX2_walk_79 : decode cX2_walk 79 = .ok (.iload_n 1, 1) := by decide +kernel
theorem dX2_walk_80 : decode cX2_walk 80 = .ok (.invokevirtual 120, 3) := by decide +kernel
theorem dX2_walk_83 : decode cX2_walk 83 = .ok (.aload_n 0, 1) := by decide +kernel
theorem dX2_walk_84 : decode cX2_walk 84 = .ok (.getfield 35, 3) := by decide +kernel
theorem dX2_walk_87 : decode cX2_walk 87 = .ok (.iload_n 3, 1) := by decide +kernel
theorem dX2_walk_88 : decode cX2_walk 88 = .ok (.dup2, 1) := by decide +kernel
theorem dX2_walk_89 : decode cX2_walk 89 = .ok (.iaload, 1) := by decide +kernel
theorem dX2_walk_90 : decode cX2_walk 90 = .ok (.iconst 1, 1) := by decide +kernel
theorem dX2_walk_91 : decode cX2_walk 91 = .ok (.iadd, 1) := by decide +kernel
theorem dX2_walk_92 : decode cX2_walk 92 = .ok (.iastore, 1) := by decide +kernel
theorem dX2_walk_93 : decode cX2_walk 93 = .ok (.iload_n 2, 1) := by decide +kernel
theorem dX2_walk_94 : decode cX2_walk 94 = .ok (.aload_n 0, 1) := by decide +kernel
theorem dX2_walk_95 : decode cX2_walk 95 = .ok (.iload_n 1, 1) := by decide +kernel
theorem dX2_walk_96 : decode cX2_walk 96 = .ok (.iconst 1, 1) := by decide +kernel
theorem dX2_walk_97 : decode cX2_walk 97 = .ok (.iadd, 1) := by decide +kernel
theorem dX2_walk_98 : decode cX2_walk 98 = .ok (.invokestatic 113, 3) := by decide +kernel
theorem dX2_walk_101 : decode cX2_walk 101 = .ok (.iadd, 1) := by decide +kernel
theorem dX2_walk_102 : decode cX2_walk 102 = .ok (.istore_n 2, 1) := by decide +kernel
theorem dX2_walk_103 : decode cX2_walk 103 = .ok (.aload_n 0, 1) := by decide +kernel
theorem dX2_walk_104 : decode cX2_walk 104 = .ok (.getfield 35, 3) := by decide +kernel
theorem dX2_walk_107 : decode cX2_walk 107 = .ok (.iload_n 3, 1) := by decide +kernel
theorem dX2_walk_108 : decode cX2_walk 108 = .ok (.dup2, 1) := by decide +kernel
theorem dX2_walk_109 : decode cX2_walk 109 = .ok (.iaload, 1) := by decide +kernel
theorem dX2_walk_110 : decode cX2_walk 110 = .ok (.iconst 1, 1) := by decide +kernel
theorem dX2_walk_111 : decode cX2_walk 111 = .ok (.isub, 1) := by decide +kernel
theorem dX2_walk_112 : decode cX2_walk 112 = .ok (.iastore, 1) := by decide +kernel
theorem dX2_walk_113 : decode cX2_walk 113 = .ok (.iinc 3 1, 3) := by decide +kernel
theorem dX2_walk_116 : decode cX2_walk 116 = .ok (.goto (-112), 3) := by decide +kernel
theorem dX2_walk_119 : decode cX2_walk 119 = .ok (.iload_n 2, 1) := by decide +kernel
theorem dX2_walk_120 : decode cX2_walk 120 = .ok (.ireturn, 1) := by decide +kernel
theorem dX2_mayCome_0 : decode cX2_mayCome 0 = .ok (.aload_n 0, 1) := by decide +kernel
theorem dX2_mayCome_1 : decode cX2_mayCome 1 = .ok (.getfield 35, 3) := by decide +kernel
theorem dX2_mayCome_4 : decode cX2_mayCome 4 = .ok (.iload_n 1, 1) := by decide +kernel
theorem dX2_mayCome_5 : decode cX2_mayCome 5 = .ok (.iaload, 1) := by decide +kernel
theorem dX2_mayCome_6 : decode cX2_mayCome 6 = .ok (.aload_n 0, 1) := by decide +kernel
theorem dX2_mayCome_7 : decode cX2_mayCome 7 = .ok (.getfield 42, 3) := by decide +kernel
theorem dX2_mayCome_10 : decode cX2_mayCome 10 = .ok (.if_icmp .ge 26, 3) := by decide +kernel
theorem dX2_mayCome_13 : decode cX2_mayCome 13 = .ok (.aload_n 0, 1) := by decide +kernel
theorem dX2_mayCome_14 : decode cX2_mayCome 14 = .ok (.getfield 46, 3) := by decide +kernel
theorem dX2_mayCome_17 : decode cX2_mayCome 17 = .ok (.ifCond .ne 21, 3) := by decide +kernel
theorem dX2_mayCome_20 : decode cX2_mayCome 20 = .ok (.iload_n 2, 1) := by decide +kernel
theorem dX2_mayCome_21 : decode cX2_mayCome 21 = .ok (.ifCond .le 17, 3) := by decide +kernel
theorem dX2_mayCome_24 : decode cX2_mayCome 24 = .ok (.aload_n 0, 1) := by decide +kernel
theorem dX2_mayCome_25 : decode cX2_mayCome 25 = .ok (.getfield 32, 3) := by decide +kernel
theorem dX2_mayCome_28 : decode cX2_mayCome 28 = .ok (.iload_n 2, 1) := by decide +kernel
theorem dX2_mayCome_29 : decode cX2_mayCome 29 = .ok (.iconst 1, 1) := by decide +kernel
theorem dX2_mayCome_30 : decode cX2_mayCome 30 = .ok (.isub, 1) := by decide +kernel
theorem dX2_mayCome_31 : decode cX2_mayCome 31 = .ok (.iaload, 1) := by decide +kernel
theorem dX2_mayCome_32 : decode cX2_mayCome 32 = .ok (.iload_n 1, 1) := by decide +kernel
theorem dX2_mayCome_33 : decode cX2_mayCome 33 = .ok (.if_icmp .ne 5, 3) := by decide +kernel
theorem dX2_mayCome_36 : decode cX2_mayCome 36 = .ok (.iconst 0, 1) := by decide +kernel
theorem dX2_mayCome_37 : decode cX2_mayCome 37 = .ok (.ireturn, 1) := by decide +kernel
theorem dX2_mayCome_38 : decode cX2_mayCome 38 = .ok (.aload_n 0, 1) := by decide +kernel
theorem dX2_mayCome_39 : decode cX2_mayCome 39 = .ok (.getfield 26, 3) := by decide +kernel
theorem dX2_mayCome_42 : decode cX2_mayCome 42 = .ok (.iload_n 2, 1) := by decide +kernel
theorem dX2_mayCome_43 : decode cX2_mayCome 43 = .ok (.iaload, 1) := by decide +kernel
theorem dX2_mayCome_44 : decode cX2_mayCome 44 = .ok (.aload_n 0, 1) := by decide +kernel
theorem dX2_mayCome_45 : decode cX2_mayCome 45 = .ok (.getfield 16, 3) := by decide +kernel
theorem dX2_mayCome_48 : decode cX2_mayCome 48 = .ok (.iload_n 1, 1) := by decide +kernel
theorem dX2_mayCome_49 : decode cX2_mayCome 49 = .ok (.iaload, 1) := by decide +kernel
theorem dX2_mayCome_50 : decode cX2_mayCome 50 = .ok (.iand, 1) := by decide +kernel
theorem dX2_mayCome_51 : decode cX2_mayCome 51 = .ok (.aload_n 0, 1) := by decide +kernel
theorem dX2_mayCome_52 : decode cX2_mayCome 52 = .ok (.getfield 16, 3) := by decide +kernel
theorem dX2_mayCome_55 : decode cX2_mayCome 55 = .ok (.iload_n 1, 1) := by decide +kernel
theorem dX2_mayCome_56 : decode cX2_mayCome 56 = .ok (.iaload, 1) := by decide +kernel
theorem dX2_mayCome_57 : decode cX2_mayCome 57 = .ok (.if_icmp .ne 23, 3) := by decide +kernel
theorem dX2_mayCome_60 : decode cX2_mayCome 60 = .ok (.aload_n 0, 1) := by decide +kernel
theorem dX2_mayCome_61 : decode cX2_mayCome 61 = .ok (.getfield 26, 3) := by decide +kernel
theorem dX2_mayCome_64 : decode cX2_mayCome 64 = .ok (.iload_n 2, 1) := by decide +kernel
theorem dX2_mayCome_65 : decode cX2_mayCome 65 = .ok (.iaload, 1) := by decide +kernel
theorem dX2_mayCome_66 : decode cX2_mayCome 66 = .ok (.aload_n 0, 1) := by decide +kernel
theorem dX2_mayCome_67 : decode cX2_mayCome 67 = .ok (.getfield 20, 3) := by decide +kernel
theorem dX2_mayCome_70 : decode cX2_mayCome 70 = .ok (.iload_n 1, 1) := by decide +kernel
theorem dX2_mayCome_71 : decode cX2_mayCome 71 = .ok (.iaload, 1) := by decide +kernel
end
section
theorem dX2_mayCome_72 : decode cX2_mayCome 72 = .ok (.iand, 1) := by decide +kernel
theorem dX2_mayCome_73 : decode cX2_mayCome 73 = .ok (.ifCond .ne 7, 3) := by decide +kernel
theorem dX2_mayCome_76 : decode cX2_mayCome 76 = .ok (.iconst 1, 1) := by decide +kernel
theorem dX2_mayCome_77 : decode cX2_mayCome 77 = .ok (.goto 4, 3) := by decide +kernel
theorem dX2_mayCome_80 : decode cX2_mayCome 80 = .ok (.iconst 0, 1) := by decide +kernel
theorem dX2_mayCome_81 : decode cX2_mayCome 81 = .ok (.ireturn, 1) := by decide +kernel
theorem dX2_step_0 : decode cX2_step 0 = .ok (.aload_n 0, 1) := by decide +kernel
theorem dX2_step_1 : decode cX2_step 1 = .ok (.getfield 23, 3) := by decide +kernel
theorem dX2_step_4 : decode cX2_step 4 = .ok (.iload_n 2, 1) := by decide +kernel
theorem dX2_step_5 : decode cX2_step 5 = .ok (.aaload, 1) := by decide +kernel
theorem dX2_step_6 : decode cX2_step 6 = .ok (.astore_n 3, 1) := by decide +kernel
theorem dX2_step_7 : decode cX2_step 7 = .ok (.aload_n 0, 1) := by decide +kernel
theorem dX2_step_8 : decode cX2_step 8 = .ok (.getfield 23, 3) := by decide +kernel
theorem dX2_step_11 : decode cX2_step 11 = .ok (.iload_n 2, 1) := by decide +kernel
theorem dX2_step_12 : decode cX2_step 12 = .ok (.iconst 1, 1) := by decide +kernel
theorem dX2_step_13 : decode cX2_step 13 = .ok (.iadd, 1) := by decide +kernel
theorem dX2_step_14 : decode cX2_step 14 = .ok (.aaload, 1) := by decide +kernel
theorem dX2_step_15 : decode cX2_step 15 = .ok (.astore 4, 2) := by decide +kernel
theorem dX2_step_17 : decode cX2_step 17 = .ok (.iconst 0, 1) := by decide +kernel
theorem dX2_step_18 : decode cX2_step 18 = .ok (.istore 5, 2) := by decide +kernel
theorem dX2_step_20 : decode cX2_step 20 = .ok (.iload 5, 2) := by decide +kernel
theorem dX2_step_22 : decode cX2_step 22 = .ok (.aload_n 0, 1) := by decide +kernel
theorem dX2_step_23 : decode cX2_step 23 = .ok (.getfield 70, 3) := by decide +kernel
theorem dX2_step_26 : decode cX2_step 26 = .ok (.if_icmp .ge 25, 3) := by decide +kernel
theorem dX2_step_29 : decode cX2_step 29 = .ok (.aload 4, 2) := by decide +kernel
theorem dX2_step_31 : decode cX2_step 31 = .ok (.iload 5, 2) := by decide +kernel
theorem dX2_step_33 : decode cX2_step 33 = .ok (.aload_n 0, 1) := by decide +kernel
theorem dX2_step_34 : decode cX2_step 34 = .ok (.getfield 11, 3) := by decide +kernel
theorem dX2_step_37 : decode cX2_step 37 = .ok (.iload_n 1, 1) := by decide +kernel
theorem dX2_step_38 : decode cX2_step 38 = .ok (.aaload, 1) := by decide +kernel
theorem dX2_step_39 : decode cX2_step 39 = .ok (.aload_n 3, 1) := by decide +kernel
theorem dX2_step_40 : decode cX2_step 40 = .ok (.iload 5, 2) := by decide +kernel
theorem dX2_step_42 : decode cX2_step 42 = .ok (.iaload, 1) := by decide +kernel
theorem dX2_step_43 : decode cX2_step 43 = .ok (.iaload, 1) := by decide +kernel
theorem dX2_step_44 : decode cX2_step 44 = .ok (.iastore, 1) := by decide +kernel
theorem dX2_step_45 : decode cX2_step 45 = .ok (.iinc 5 1, 3) := by decide +kernel
theorem dX2_step_48 : decode cX2_step 48 = .ok (.goto (-28), 3) := by decide +kernel
theorem dX2_step_51 : decode cX2_step 51 = .ok (.aload_n 0, 1) := by decide +kernel
theorem dX2_step_52 : decode cX2_step 52 = .ok (.getfield 26, 3) := by decide +kernel
theorem dX2_step_55 : decode cX2_step 55 = .ok (.iload_n 2, 1) := by decide +kernel
theorem dX2_step_56 : decode cX2_step 56 = .ok (.iconst 1, 1) := by decide +kernel
theorem dX2_step_57 : decode cX2_step 57 = .ok (.iadd, 1) := by decide +kernel
theorem dX2_step_58 : decode cX2_step 58 = .ok (.aload 4, 2) := by decide +kernel
theorem dX2_step_60 : decode cX2_step 60 = .ok (.aload_n 0, 1) := by decide +kernel
theorem dX2_step_61 : decode cX2_step 61 = .ok (.getfield 70, 3) := by decide +kernel
theorem dX2_step_64 : decode cX2_step 64 = .ok (.invokestatic 85, 3) := by decide +kernel
theorem dX2_step_67 : decode cX2_step 67 = .ok (.iastore, 1) := by decide +kernel
theorem dX2_step_68 : decode cX2_step 68 = .ok (.return_, 1) := by decide +kernel
theorem dX2_isGoalBehind_0 : decode cX2_isGoalBehind 0 = .ok (.aload_n 0, 1) := by decide +kernel
theorem dX2_isGoalBehind_1 : decode cX2_isGoalBehind 1 = .ok (.getfield 23, 3) := by decide +kernel
theorem dX2_isGoalBehind_4 : decode cX2_isGoalBehind 4 = .ok (.iload_n 2, 1) := by decide +kernel
theorem dX2_isGoalBehind_5 : decode cX2_isGoalBehind 5 = .ok (.aaload, 1) := by decide +kernel
theorem dX2_isGoalBehind_6 : decode cX2_isGoalBehind 6 = .ok (.astore_n 3, 1) := by decide +kernel
theorem dX2_isGoalBehind_7 : decode cX2_isGoalBehind 7 = .ok (.aload_n 0, 1) := by decide +kernel
theorem dX2_isGoalBehind_8 : decode cX2_isGoalBehind 8 = .ok (.getfield 11, 3) := by decide +kernel
theorem dX2_isGoalBehind_11 : decode cX2_isGoalBehind 11 = .ok (.iload_n 1, 1) := by decide +kernel
theorem dX2_isGoalBehind_12 : decode cX2_isGoalBehind 12 = .ok (.aaload, 1) := by decide +kernel
theorem dX2_isGoalBehind_13 : decode cX2_isGoalBehind 13 = .ok (.astore 4, 2) := by decide +kernel
theorem dX2_isGoalBehind_15 : decode cX2_isGoalBehind 15 = .ok (.aload_n 0, 1) := by decide +kernel
theorem dX2_isGoalBehind_16 : decode cX2_isGoalBehind 16 = .ok (.getfield 62, 3) := by decide +kernel
theorem dX2_isGoalBehind_19 : decode cX2_isGoalBehind 19 = .ok (.iconst 1, 1) := by decide +kernel
theorem dX2_isGoalBehind_20 : decode cX2_isGoalBehind 20 = .ok (.if_icmp .eq 40, 3) := by decide +kernel
theorem dX2_isGoalBehind_23 : decode cX2_isGoalBehind 23 = .ok (.iconst 0, 1) := by decide +kernel
theorem dX2_isGoalBehind_24 : decode cX2_isGoalBehind 24 = .ok (.istore 5, 2) := by decide +kernel
theorem dX2_isGoalBehind_26 : decode cX2_isGoalBehind 26 = .ok (.iload 5, 2) := by decide +kernel
theorem dX2_isGoalBehind_28 : decode cX2_isGoalBehind 28 = .ok (.aload_n 0, 1) := by decide +kernel
theorem dX2_isGoalBehind_29 : decode cX2_isGoalBehind 29 = .ok (.getfield 70, 3) := by decide +kernel
theorem dX2_isGoalBehind_32 : decode cX2_isGoalBehind 32 = .ok (.if_icmp .ge 28, 3) := by decide +kernel
theorem dX2_isGoalBehind_35 : decode cX2_isGoalBehind 35 = .ok (.aload 4, 2) := by decide +kernel
theorem dX2_isGoalBehind_37 : decode cX2_isGoalBehind 37 = .ok (.aload_n 3, 1) := by decide +kernel
theorem dX2_isGoalBehind_38 : decode cX2_isGoalBehind 38 = .ok (.iload 5, 2) := by decide +kernel
theorem dX2_isGoalBehind_40 : decode cX2_isGoalBehind 40 = .ok (.iaload, 1) := by decide +kernel
theorem dX2_isGoalBehind_41 : decode cX2_isGoalBehind 41 = .ok (.iaload, 1) := by decide +kernel
theorem dX2_isGoalBehind_42 : decode cX2_isGoalBehind 42 = .ok (.aload_n 0, 1) := by decide +kernel
theorem dX2_isGoalBehind_43 : decode cX2_isGoalBehind 43 = .ok (.getfield 29, 3) := by decide +kernel
theorem dX2_isGoalBehind_46 : decode cX2_isGoalBehind 46 = .ok (.iload 5, 2) := by decide +kernel
theorem dX2_isGoalBehind_48 : decode cX2_isGoalBehind 48 = .ok (.iaload, 1) := by decide +kernel
theorem dX2_isGoalBehind_49 : decode cX2_isGoalBehind 49 = .ok (.if_icmp .eq 5, 3) := by decide +kernel
theorem dX2_isGoalBehind_52 : decode cX2_isGoalBehind 52 = .ok (.iconst 0, 1) := by decide +kernel
theorem dX2_isGoalBehind_53 : decode cX2_isGoalBehind 53 = .ok (.ireturn, 1) := by decide +kernel
theorem dX2_isGoalBehind_54 : decode cX2_isGoalBehind 54 = .ok (.iinc 5 1, 3) := by decide +kernel
theorem dX2_isGoalBehind_57 : decode cX2_isGoalBehind 57 = .ok (.goto (-31), 3) := by decide +kernel
theorem dX2_isGoalBehind_60 : decode cX2_isGoalBehind 60 = .ok (.aload_n 0, 1) := by decide +kernel
theorem dX2_isGoalBehind_61 : decode cX2_isGoalBehind 61 = .ok (.getfield 62, 3) := by decide +kernel
theorem dX2_isGoalBehind_64 : decode cX2_isGoalBehind 64 = .ok (.ifCond .eq 47, 3) := by decide +kernel
theorem dX2_isGoalBehind_67 : decode cX2_isGoalBehind 67 = .ok (.iconst 0, 1) := by decide +kernel
theorem dX2_isGoalBehind_68 : decode cX2_isGoalBehind 68 = .ok (.istore 5, 2) := by decide +kernel
theorem dX2_isGoalBehind_70 : decode cX2_isGoalBehind 70 = .ok (.iload 5, 2) := by decide +kernel
theorem dX2_isGoalBehind_72 : decode cX2_isGoalBehind 72 = .ok (.iconst 1, 1) := by decide +kernel
theorem dX2_isGoalBehind_73 : decode cX2_isGoalBehind 73 = .ok (.iadd, 1) := by decide +kernel
theorem dX2_isGoalBehind_74 : decode cX2_isGoalBehind 74 = .ok (.aload_n 0, 1) := by decide +kernel
theorem dX2_isGoalBehind_75 : decode cX2_isGoalBehind 75 = .ok (.getfield 70, 3) := by decide +kernel
theorem dX2_isGoalBehind_78 : decode cX2_isGoalBehind 78 = .ok (.if_icmp .ge 33, 3) := by decide +kernel
theorem dX2_isGoalBehind_81 : decode cX2_isGoalBehind 81 = .ok (.aload 4, 2) := by decide +kernel
theorem dX2_isGoalBehind_83 : decode cX2_isGoalBehind 83 = .ok (.aload_n 3, 1) := by decide +kernel
theorem dX2_isGoalBehind_84 : decode cX2_isGoalBehind 84 = .ok (.iload 5, 2) := by decide +kernel
theorem dX2_isGoalBehind_86 : decode cX2_isGoalBehind 86 = .ok (.iaload, 1) := by decide +kernel
theorem dX2_isGoalBehind_87 : decode cX2_isGoalBehind 87 = .ok (.iaload, 1) := by decide +kernel
theorem dX2_isGoalBehind_88 : decode cX2_isGoalBehind 88 = .ok (.aload 4, 2) := by decide +kernel
theorem dX2_isGoalBehind_90 : decode cX2_isGoalBehind 90 = .ok (.aload_n 3, 1) := by decide +kernel
theorem dX2_isGoalBehind_91 : decode cX2_isGoalBehind 91 = .ok (.iload 5, 2) := by decide +kernel
theorem dX2_isGoalBehind_93 : decode cX2_isGoalBehind 93 = .ok (.iconst 1, 1) := by decide +kernel
theorem dX2_isGoalBehind_94 : decode cX2_isGoalBehind 94 = .ok (.iadd, 1) := by decide +kernel
theorem dX2_isGoalBehind_95 : decode cX2_isGoalBehind 95 = .ok (.iaload, 1) := by decide +kernel
theorem dX2_isGoalBehind_96 : decode cX2_isGoalBehind 96 = .ok (.iaload, 1) := by decide +kernel
theorem dX2_isGoalBehind_97 : decode cX2_isGoalBehind 97 = .ok (.invokestatic 124, 3) := by decide +kernel
theorem dX2_isGoalBehind_100 : decode cX2_isGoalBehind 100 = .ok (.ifCond .ne 5, 3) := by decide +kernel
theorem dX2_isGoalBehind_103 : decode cX2_isGoalBehind 103 = .ok (.iconst 0, 1) := by decide +kernel
theorem dX2_isGoalBehind_104 : decode cX2_isGoalBehind 104 = .ok (.ireturn, 1) := by decide +kernel
theorem dX2_isGoalBehind_105 : decode cX2_isGoalBehind 105 = .ok (.iinc 5 2, 3) := by decide +kernel
theorem dX2_isGoalBehind_108 : decode cX2_isGoalBehind 108 = .ok (.goto (-38), 3) := by decide +kernel
theorem dX2_isGoalBehind_111 : decode cX2_isGoalBehind 111 = .ok (.iconst 1, 1) := by decide +kernel
theorem dX2_isGoalBehind_112 : decode cX2_isGoalBehind 112 = .ok (.ireturn, 1) := by decide +kernel
theorem dX3_init_0 : decode cX3_init 0 = .ok (.aload_n 0, 1) := by decide +kernel
theorem dX3_init_1 : decode cX3_init 1 = .ok (.invokespecial 3, 3) := by decide +kernel
theorem dX3_init_4 : decode cX3_init 4 = .ok (.aload_n 0, 1) := by decide +kernel
theorem dX3_init_5 : decode cX3_init 5 = .ok (.bipush 8, 2) := by decide +kernel
theorem dX3_init_7 : decode cX3_init 7 = .ok (.newarray .int, 2) := by decide +kernel
theorem dX3_init_9 : decode cX3_init 9 = .ok (.putfield 9, 3) := by decide +kernel
theorem dX3_init_12 : decode cX3_init 12 = .ok (.aload_n 0, 1) := by decide +kernel
theorem dX3_init_13 : decode cX3_init 13 = .ok (.bipush 8, 2) := by decide +kernel
theorem dX3_init_15 : decode cX3_init 15 = .ok (.newarray .int, 2) := by decide +kernel
theorem dX3_init_17 : decode cX3_init 17 = .ok (.putfield 15, 3) := by decide +kernel
theorem dX3_init_20 : decode cX3_init 20 = .ok (.aload_n 0, 1) := by decide +kernel
theorem dX3_init_21 : decode cX3_init 21 = .ok (.bipush 8, 2) := by decide +kernel
theorem dX3_init_23 : decode cX3_init 23 = .ok (.anewarray 18, 3) := by decide +kernel
theorem dX3_init_26 : decode cX3_init 26 = .ok (.putfield 20, 3) := by decide +kernel
theorem dX3_init_29 : decode cX3_init 29 = .ok (.aload_n 0, 1) := by decide +kernel
theorem dX3_init_30 : decode cX3_init 30 = .ok (.bipush 12, 2) := by decide +kernel
theorem dX3_init_32 : decode cX3_init 32 = .ok (.newarray .int, 2) := by decide +kernel
theorem dX3_init_34 : decode cX3_init 34 = .ok (.putfield 24, 3) := by decide +kernel
theorem dX3_init_37 : decode cX3_init 37 = .ok (.aload_n 0, 1) := by decide +kernel
theorem dX3_init_38 : decode cX3_init 38 = .ok (.bipush 8, 2) := by decide +kernel
theorem dX3_init_40 : decode cX3_init 40 = .ok (.newarray .int, 2) := by decide +kernel
theorem dX3_init_42 : decode cX3_init 42 = .ok (.putfield 27, 3) := by decide +kernel
theorem dX3_init_45 : decode cX3_init 45 = .ok (.iconst 0, 1) := by decide +kernel
theorem dX3_init_46 : decode cX3_init 46 = .ok (.istore_n 1, 1) := by decide +kernel
theorem dX3_init_47 : decode cX3_init 47 = .ok (.iload_n 1, 1) := by decide +kernel
theorem dX3_init_48 : decode cX3_init 48 = .ok (.bipush 8, 2) := by decide +kernel
theorem dX3_init_50 : decode cX3_init 50 = .ok (.if_icmp .ge 22, 3) := by decide +kernel
theorem dX3_init_53 : decode cX3_init 53 = .ok (.aload_n 0, 1) := by decide +kernel
theorem dX3_init_54 : decode cX3_init 54 = .ok (.getfield 20, 3) := by decide +kernel
theorem dX3_init_57 : decode cX3_init 57 = .ok (.iload_n 1, 1) := by decide +kernel
theorem dX3_init_58 : decode cX3_init 58 = .ok (.new 18, 3) := by decide +kernel
theorem dX3_init_61 : decode cX3_init 61 = .ok (.dup, 1) := by decide +kernel
theorem dX3_init_62 : decode cX3_init 62 = .ok (.invokespecial 30, 3) := by decide +kernel
theorem dX3_init_65 : decode cX3_init 65 = .ok (.aastore, 1) := by decide +kernel
theorem dX3_init_66 : decode cX3_init 66 = .ok (.iinc 1 1, 3) := by decide +kernel
theorem dX3_init_69 : decode cX3_init 69 = .ok (.goto (-22), 3) := by decide +kernel
theorem dX3_init_72 : decode cX3_init 72 = .ok (.return_, 1) := by decide +kernel
theorem dX3_copyFrom_0 : decode cX3_copyFrom 0 = .ok (.aload_n 0, 1) := by decide +kernel
theorem dX3_copyFrom_1 : decode cX3_copyFrom 1 = .ok (.aload_n 1, 1) := by decide +kernel
theorem dX3_copyFrom_2 : decode cX3_copyFrom 2 = .ok (.getfield 31, 3) := by decide +kernel
theorem dX3_copyFrom_5 : decode cX3_copyFrom 5 = .ok (.putfield 31, 3) := by decide +kernel
theorem dX3_copyFrom_8 : decode cX3_copyFrom 8 = .ok (.aload_n 1, 1) := by decide +kernel
theorem dX3_copyFrom_9 : decode cX3_copyFrom 9 = .ok (.getfield 9, 3) := by decide +kernel
theorem dX3_copyFrom_12 : decode cX3_copyFrom 12 = .ok (.iconst 0, 1) := by decide +kernel
theorem dX3_copyFrom_13 : decode cX3_copyFrom 13 = .ok (.aload_n 0, 1) := by decide +kernel
theorem dX3_copyFrom_14 : decode cX3_copyFrom 14 = .ok (.getfield 9, 3) := by decide +kernel
theorem dX3_copyFrom_17 : decode cX3_copyFrom 17 = .ok (.iconst 0, 1) := by decide +kernel
theorem dX3_copyFrom_18 : decode cX3_copyFrom 18 = .ok (.bipush 8, 2) := by decide +kernel
theorem dX3_copyFrom_20 : decode cX3_copyFrom 20 = .ok (.invokestatic 35, 3) := by decide +kernel
theorem dX3_copyFrom_23 : decode cX3_copyFrom 23 = .ok (.aload_n 1, 1) := by decide +kernel
theorem dX3_copyFrom_24 : decode cX3_copyFrom 24 = .ok (.getfield 15, 3) := by decide +kernel
theorem dX3_copyFrom_27 : decode cX3_copyFrom 27 = .ok (.iconst 0, 1) := by decide +kernel
theorem dX3_copyFrom_28 : decode cX3_copyFrom 28 = .ok (.aload_n 0, 1) := by decide +kernel
theorem dX3_copyFrom_29 : decode cX3_copyFrom 29 = .ok (.getfield 15, 3) := by decide +kernel
theorem dX3_copyFrom_32 : decode cX3_copyFrom 32 = .ok (.iconst 0, 1) := by decide +kernel
theorem dX3_copyFrom_33 : decode cX3_copyFrom 33 = .ok (.bipush 8, 2) := by decide +kernel
theorem dX3_copyFrom_35 : decode cX3_copyFrom 35 = .ok (.invokestatic 35, 3) := by decide +kernel
theorem dX3_copyFrom_38 : decode cX3_copyFrom 38 = .ok (.aload_n 0, 1) := by decide +kernel
theorem dX3_copyFrom_39 : decode cX3_copyFrom 39 = .ok (.aload_n 1, 1) := by decide +kernel
theorem dX3_copyFrom_40 : decode cX3_copyFrom 40 = .ok (.getfield 41, 3) := by decide +kernel
theorem dX3_copyFrom_43 : decode cX3_copyFrom 43 = .ok (.putfield 41, 3) := by decide +kernel
theorem dX3_copyFrom_46 : decode cX3_copyFrom 46 = .ok (.iconst 0, 1) := by decide +kernel
theorem dX3_copyFrom_47 : decode cX3_copyFrom 47 = .ok (.istore_n 2, 1) := by decide +kernel
theorem dX3_copyFrom_48 : decode cX3_copyFrom 48 = .ok (.iload_n 2, 1) := by decide +kernel
theorem dX3_copyFrom_49 : decode cX3_copyFrom 49 = .ok (.aload_n 0, 1) := by decide +kernel
theorem dX3_copyFrom_50 : decode cX3_copyFrom 50 = .ok (.getfield 41, 3) := by decide +kernel
theorem dX3_copyFrom_53 : decode cX3_copyFrom 53 = .ok (.if_icmp .ge 24, 3) := by decide +kernel
theorem dX3_copyFrom_56 : decode cX3_copyFrom 56 = .ok (.aload_n 0, 1) := by decide +kernel
theorem dX3_copyFrom_57 : decode cX3_copyFrom 57 = .ok (.getfield 20, 3) := by decide +kernel
theorem dX3_copyFrom_60 : decode cX3_copyFrom 60 = .ok (.iload_n 2, 1) := by decide +kernel
theorem dX3_copyFrom_61 : decode cX3_copyFrom 61 = .ok (.aaload, 1) := by decide +kernel
theorem dX3_copyFrom_62 : decode cX3_copyFrom 62 = .ok (.aload_n 1, 1) := by decide +kernel
theorem dX3_copyFrom_63 : decode cX3_copyFrom 63 = .ok (.getfield 20, 3) := by decide +kernel
theorem dX3_copyFrom_66 : decode cX3_copyFrom 66 = .ok (.iload_n 2, 1) := by decide +kernel
theorem dX3_copyFrom_67 : decode cX3_copyFrom 67 = .ok (.aaload, 1) := by decide +kernel
theorem dX3_copyFrom_68 : decode cX3_copyFrom 68 = .ok (.invokevirtual 44, 3) := by decide +kernel
theorem dX3_copyFrom_71 : decode cX3_copyFrom 71 = .ok (.iinc 2 1, 3) := by decide +kernel
theorem dX3_copyFrom_74 : decode cX3_copyFrom 74 = .ok (.goto (-26), 3) := by decide +kernel
theorem dX3_copyFrom_77 : decode cX3_copyFrom 77 = .ok (.aload_n 0, 1) := by decide +kernel
theorem dX3_copyFrom_78 : decode cX3_copyFrom 78 = .ok (.aload_n 1, 1) := by decide +kernel
theorem dX3_copyFrom_79 : decode cX3_copyFrom 79 = .ok (.getfield 48, 3) := by decide +kernel
theorem dX3_copyFrom_82 : decode cX3_copyFrom 82 = .ok (.putfield 48, 3) := by decide +kernel
theorem dX3_copyFrom_85 : decode cX3_copyFrom 85 = .ok (.aload_n 1, 1) := by decide +kernel
theorem dX3_copyFrom_86 : decode cX3_copyFrom 86 = .ok (.getfield 24, 3) := by decide +kernel
theorem dX3_copyFrom_89 : decode cX3_copyFrom 89 = .ok (.iconst 0, 1) := by decide +kernel
theorem dX3_copyFrom_90 : decode cX3_copyFrom 90 = .ok (.aload_n 0, 1) := by decide +kernel
theorem dX3_copyFrom_91 : decode cX3_copyFrom 91 = .ok (.getfield 24, 3) := by decide +kernel
theorem dX3_copyFrom_94 : decode cX3_copyFrom 94 = .ok (.iconst 0, 1) := by decide +kernel
theorem dX3_copyFrom_95 : decode cX3_copyFrom 95 = .ok (.bipush 12, 2) := by decide +kernel
theorem dX3_copyFrom_97 : decode cX3_copyFrom 97 = .ok (.invokestatic 35, 3) := by decide +kernel
theorem dX3_copyFrom_100 : decode cX3_copyFrom 100 = .ok (.aload_n 0, 1) := by decide +kernel
theorem dX3_copyFrom_101 : decode cX3_copyFrom 101 = .ok (.aload_n 1, 1) := by decide +kernel
theorem dX3_copyFrom_102 : decode cX3_copyFrom 102 = .ok (.getfield 51, 3) := by decide +kernel
theorem dX3_copyFrom_105 : decode cX3_copyFrom 105 = .ok (.putfield 51, 3) := by decide +kernel
theorem dX3_copyFrom_108 : decode cX3_copyFrom 108 = .ok (.return_, 1) := by decide +kernel
theorem dX3_addDancer_0 : decode cX3_addDancer 0 = .ok (.iload_n 1, 1) := by decide +kernel
theorem dX3_addDancer_1 : decode cX3_addDancer 1 = .ok (.bipush 12, 2) := by decide +kernel
theorem dX3_addDancer_3 : decode cX3_addDancer 3 = .ok (.invokestatic 54, 3) := by decide +kernel
theorem dX3_addDancer_6 : decode cX3_addDancer 6 = .ok (.ifCond .eq 28, 3) := by decide +kernel
theorem dX3_addDancer_9 : decode cX3_addDancer 9 = .ok (.iload_n 2, 1) := by decide +kernel
theorem dX3_addDancer_10 : decode cX3_addDancer 10 = .ok (.iconst 4, 1) := by decide +kernel
theorem dX3_addDancer_11 : decode cX3_addDancer 11 = .ok (.invokestatic 54, 3) := by decide +kernel
theorem dX3_addDancer_14 : decode cX3_addDancer 14 = .ok (.ifCond .eq 20, 3) := by decide +kernel
theorem dX3_addDancer_17 : decode cX3_addDancer 17 = .ok (.aload_n 0, 1) := by decide +kernel
theorem dX3_addDancer_18 : decode cX3_addDancer 18 = .ok (.iload_n 1, 1) := by decide +kernel
theorem dX3_addDancer_19 : decode cX3_addDancer 19 = .ok (.invokevirtual 58, 3) := by decide +kernel
theorem dX3_addDancer_22 : decode cX3_addDancer 22 = .ok (.iconst (-1), 1) := by decide +kernel
theorem dX3_addDancer_23 : decode cX3_addDancer 23 = .ok (.if_icmp .ne 11, 3) := by decide +kernel
theorem dX3_addDancer_26 : decode cX3_addDancer 26 = .ok (.aload_n 0, 1) := by decide +kernel
theorem dX3_addDancer_27 : decode cX3_addDancer 27 = .ok (.iload_n 1, 1) := by decide +kernel
theorem dX3_addDancer_28 : decode cX3_addDancer 28 = .ok (.invokevirtual 62, 3) := by decide +kernel
theorem dX3_addDancer_31 : decode cX3_addDancer 31 = .ok (.ifCond .eq 6, 3) := by decide +kernel
theorem dX3_addDancer_34 : decode cX3_addDancer 34 = .ok (.bipush (-2), 2) := by decide +kernel
theorem dX3_addDancer_36 : decode cX3_addDancer 36 = .ok (.ireturn, 1) := by decide +kernel
theorem dX3_addDancer_37 : decode cX3_addDancer 37 = .ok (.aload_n 0, 1) := by decide +kernel
theorem dX3_addDancer_38 : decode cX3_addDancer 38 = .ok (.getfield 31, 3) := by decide +kernel
theorem dX3_addDancer_41 : decode cX3_addDancer 41 = .ok (.bipush 8, 2) := by decide +kernel
theorem dX3_addDancer_43 : decode cX3_addDancer 43 = .ok (.if_icmp .lt 6, 3) := by decide +kernel
theorem dX3_addDancer_46 : decode cX3_addDancer 46 = .ok (.bipush (-4), 2) := by decide +kernel
theorem dX3_addDancer_48 : decode cX3_addDancer 48 = .ok (.ireturn, 1) := by decide +kernel
theorem dX3_addDancer_49 : decode cX3_addDancer 49 = .ok (.aload_n 0, 1) := by decide +kernel
theorem dX3_addDancer_50 : decode cX3_addDancer 50 = .ok (.getfield 9, 3) := by decide +kernel
theorem dX3_addDancer_53 : decode cX3_addDancer 53 = .ok (.aload_n 0, 1) := by decide +kernel
theorem dX3_addDancer_54 : decode cX3_addDancer 54 = .ok (.getfield 31, 3) := by decide +kernel
theorem dX3_addDancer_57 : decode cX3_addDancer 57 = .ok (.iload_n 1, 1) := by decide +kernel
theorem dX3_addDancer_58 : decode cX3_addDancer 58 = .ok (.iconst 4, 1) := by decide +kernel
theorem dX3_addDancer_59 : decode cX3_addDancer 59 = .ok (.imul, 1) := by decide +kernel
theorem dX3_addDancer_60 : decode cX3_addDancer 60 = .ok (.iload_n 2, 1) := by decide +kernel
theorem dX3_addDancer_61 : decode cX3_addDancer 61 = .ok (.iadd, 1) := by decide +kernel
theorem dX3_addDancer_62 : decode cX3_addDancer 62 = .ok (.iastore, 1) := by decide +kernel
theorem dX3_addDancer_63 : decode cX3_addDancer 63 = .ok (.aload_n 0, 1) := by decide +kernel
theorem dX3_addDancer_64 : decode cX3_addDancer 64 = .ok (.getfield 15, 3) := by decide +kernel
theorem dX3_addDancer_67 : decode cX3_addDancer 67 = .ok (.aload_n 0, 1) := by decide +kernel
theorem dX3_addDancer_68 : decode cX3_addDancer 68 = .ok (.getfield 31, 3) := by decide +kernel
theorem dX3_addDancer_71 : decode cX3_addDancer 71 = .ok (.aload_n 0, 1) := by decide +kernel
theorem dX3_addDancer_72 : decode cX3_addDancer 72 = .ok (.getfield 9, 3) := by decide +kernel
theorem dX3_addDancer_75 : decode cX3_addDancer 75 = .ok (.aload_n 0, 1) := by decide +kernel
theorem dX3_addDancer_76 : decode cX3_addDancer 76 = .ok (.getfield 31, 3) := by decide +kernel
theorem dX3_addDancer_79 : decode cX3_addDancer 79 = .ok (.iaload, 1) := by decide +kernel
theorem dX3_addDancer_80 : decode cX3_addDancer 80 = .ok (.iastore, 1) := by decide +kernel
theorem dX3_addDancer_81 : decode cX3_addDancer 81 = .ok (.aload_n 0, 1) := by decide +kernel
theorem dX3_addDancer_82 : decode cX3_addDancer 82 = .ok (.dup, 1) := by decide +kernel
theorem dX3_addDancer_83 : decode cX3_addDancer 83 = .ok (.getfield 31, 3) := by decide +kernel
theorem dX3_addDancer_86 : decode cX3_addDancer 86 = .ok (.iconst 1, 1) := by decide +kernel
theorem dX3_addDancer_87 : decode cX3_addDancer 87 = .ok (.iadd, 1) := by decide +kernel
theorem dX3_addDancer_88 : decode cX3_addDancer 88 = .ok (.putfield 31, 3) := by decide +kernel
theorem dX3_addDancer_91 : decode cX3_addDancer 91 = .ok (.aload_n 0, 1) := by decide +kernel
theorem dX3_addDancer_92 : decode cX3_addDancer 92 = .ok (.getfield 31, 3) := by decide +kernel
theorem dX3_addDancer_95 : decode cX3_addDancer 95 = .ok (.iconst 1, 1) := by decide +kernel
theorem dX3_addDancer_96 : decode cX3_addDancer 96 = .ok (.isub, 1) := by decide +kernel
theorem dX3_addDancer_97 : decode cX3_addDancer 97 = .ok (.ireturn, 1) := by decide +kernel
theorem dX3_addCall_0 : decode cX3_addCall 0 = .ok (.aload_n 0, 1) := by decide +kernel
theorem dX3_addCall_1 : decode cX3_addCall 1 = .ok (.getfield 41, 3) := by decide +kernel
theorem dX3_addCall_4 : decode cX3_addCall 4 = .ok (.bipush 8, 2) := by decide +kernel
theorem dX3_addCall_6 : decode cX3_addCall 6 = .ok (.if_icmp .lt 6, 3) := by decide +kernel
theorem dX3_addCall_9 : decode cX3_addCall 9 = .ok (.bipush (-4), 2) := by decide +kernel
theorem dX3_addCall_11 : decode cX3_addCall 11 = .ok (.ireturn, 1) := by decide +kernel
theorem dX3_addCall_12 : decode cX3_addCall 12 = .ok (.aload_n 0, 1) := by decide +kernel
theorem dX3_addCall_13 : decode cX3_addCall 13 = .ok (.getfield 20, 3) := by decide +kernel
theorem dX3_addCall_16 : decode cX3_addCall 16 = .ok (.aload_n 0, 1) := by decide +kernel
theorem dX3_addCall_17 : decode cX3_addCall 17 = .ok (.getfield 41, 3) := by decide +kernel
theorem dX3_addCall_20 : decode cX3_addCall 20 = .ok (.aaload, 1) := by decide +kernel
theorem dX3_addCall_21 : decode cX3_addCall 21 = .ok (.invokevirtual 66, 3) := by decide +kernel
theorem dX3_addCall_24 : decode cX3_addCall 24 = .ok (.aload_n 0, 1) := by decide +kernel
theorem dX3_addCall_25 : decode cX3_addCall 25 = .ok (.dup, 1) := by decide +kernel
theorem dX3_addCall_26 : decode cX3_addCall 26 = .ok (.getfield 41, 3) := by decide +kernel
theorem dX3_addCall_29 : decode cX3_addCall 29 = .ok (.iconst 1, 1) := by decide +kernel
theorem dX3_addCall_30 : decode cX3_addCall 30 = .ok (.iadd, 1) := by decide +kernel
theorem dX3_addCall_31 : decode cX3_addCall 31 = .ok (.putfield 41, 3) := by decide +kernel
theorem dX3_addCall_34 : decode cX3_addCall 34 = .ok (.aload_n 0, 1) := by decide +kernel
theorem dX3_addCall_35 : decode cX3_addCall 35 = .ok (.getfield 41, 3) := by decide +kernel
theorem dX3_addCall_38 : decode cX3_addCall 38 = .ok (.iconst 1, 1) := by decide +kernel
theorem dX3_addCall_39 : decode cX3_addCall 39 = .ok (.isub, 1) := by decide +kernel
theorem dX3_addCall_40 : decode cX3_addCall 40 = .ok (.ireturn, 1) := by decide +kernel
theorem dX3_addCallThatGoes_0 : decode cX3_addCallThatGoes 0 = .ok (.aload_n 0, 1) := by decide +kernel
theorem dX3_addCallThatGoes_1 : decode cX3_addCallThatGoes 1 = .ok (.invokevirtual 69, 3) := by decide +kernel
theorem dX3_addCallThatGoes_4 : decode cX3_addCallThatGoes 4 = .ok (.istore_n 2, 1) := by decide +kernel
theorem dX3_addCallThatGoes_5 : decode cX3_addCallThatGoes 5 = .ok (.iload_n 2, 1) := by decide +kernel
theorem dX3_addCallThatGoes_6 : decode cX3_addCallThatGoes 6 = .ok (.ifCond .lt 20, 3) := by decide +kernel
theorem dX3_addCallThatGoes_9 : decode cX3_addCallThatGoes 9 = .ok (.aload_n 1, 1) := by decide +kernel
theorem dX3_addCallThatGoes_10 : decode cX3_addCallThatGoes 10 = .ok (.iconst 0, 1) := by decide +kernel
theorem dX3_addCallThatGoes_11 : decode cX3_addCallThatGoes 11 = .ok (.aload_n 0, 1) := by decide +kernel
theorem dX3_addCallThatGoes_12 : decode cX3_addCallThatGoes 12 = .ok (.getfield 20, 3) := by decide +kernel
theorem dX3_addCallThatGoes_15 : decode cX3_addCallThatGoes 15 = .ok (.iload_n 2, 1) := by decide +kernel
theorem dX3_addCallThatGoes_16 : decode cX3_addCallThatGoes 16 = .ok (.aaload, 1) := by decide +kernel
theorem dX3_addCallThatGoes_17 : decode cX3_addCallThatGoes 17 = .ok (.getfield 73, 3) := by decide +kernel
theorem dX3_addCallThatGoes_20 : decode cX3_addCallThatGoes 20 = .ok (.iconst 0, 1) := by decide +kernel
theorem dX3_addCallThatGoes_21 : decode cX3_addCallThatGoes 21 = .ok (.bipush 12, 2) := by decide +kernel
theorem dX3_addCallThatGoes_23 : decode cX3_addCallThatGoes 23 = .ok (.invokestatic 35, 3) := by decide +kernel
theorem dX3_addCallThatGoes_26 : decode cX3_addCallThatGoes 26 = .ok (.iload_n 2, 1) := by decide +kernel
theorem dX3_addCallThatGoes_27 : decode cX3_addCallThatGoes 27 = .ok (.ireturn, 1) := by decide +kernel
theorem dX3_exchangeGoals_0 : decode cX3_exchangeGoals 0 = .ok (.aload_n 0, 1) := by decide +kernel
theorem dX3_exchangeGoals_1 : decode cX3_exchangeGoals 1 = .ok (.iload_n 1, 1) := by decide +kernel
theorem dX3_exchangeGoals_2 : decode cX3_exchangeGoals 2 = .ok (.iload_n 2, 1) := by decide +kernel
theorem dX3_exchangeGoals_3 : decode cX3_exchangeGoals 3 = .ok (.invokevirtual 76, 3) := by decide +kernel
theorem dX3_exchangeGoals_6 : decode cX3_exchangeGoals 6 = .ok (.ifCond .eq 17, 3) := by decide +kernel
theorem dX3_exchangeGoals_9 : decode cX3_exchangeGoals 9 = .ok (.iload_n 3, 1) := by decide +kernel
theorem dX3_exchangeGoals_10 : decode cX3_exchangeGoals 10 = .ok (.bipush 12, 2) := by decide +kernel
theorem dX3_exchangeGoals_12 : decode cX3_exchangeGoals 12 = .ok (.invokestatic 54, 3) := by decide +kernel
theorem dX3_exchangeGoals_15 : decode cX3_exchangeGoals 15 = .ok (.ifCond .eq 8, 3) := by decide +kernel
theorem dX3_exchangeGoals_18 : decode cX3_exchangeGoals 18 = .ok (.iload_n 2, 1) := by decide +kernel
theorem dX3_exchangeGoals_19 : decode cX3_exchangeGoals 19 = .ok (.iload_n 3, 1) := by decide +kernel
theorem dX3_exchangeGoals_20 : decode cX3_exchangeGoals 20 = .ok (.if_icmp .ne 6, 3) := by decide +kernel
theorem dX3_exchangeGoals_23 : decode cX3_exchangeGoals 23 = .ok (.bipush (-2), 2) := by decide +kernel
theorem dX3_exchangeGoals_25 : decode cX3_exchangeGoals 25 = .ok (.ireturn, 1) := by decide +kernel
theorem dX3_exchangeGoals_26 : decode cX3_exchangeGoals 26 = .ok (.aload_n 0, 1) := by decide +kernel
theorem dX3_exchangeGoals_27 : decode cX3_exchangeGoals 27 = .ok (.getfield 20, 3) := by decide +kernel
theorem dX3_exchangeGoals_30 : decode cX3_exchangeGoals 30 = .ok (.iload_n 1, 1) := by decide +kernel
theorem dX3_exchangeGoals_31 : decode cX3_exchangeGoals 31 = .ok (.aaload, 1) := by decide +kernel
theorem dX3_exchangeGoals_32 : decode cX3_exchangeGoals 32 = .ok (.getfield 73, 3) := by decide +kernel
theorem dX3_exchangeGoals_35 : decode cX3_exchangeGoals 35 = .ok (.astore 4, 2) := by decide +kernel
theorem dX3_exchangeGoals_37 : decode cX3_exchangeGoals 37 = .ok (.aload 4, 2) := by decide +kernel
theorem dX3_exchangeGoals_39 : decode cX3_exchangeGoals 39 = .ok (.iload_n 2, 1) := by decide +kernel
theorem dX3_exchangeGoals_40 : decode cX3_exchangeGoals 40 = .ok (.iaload, 1) := by decide +kernel
theorem dX3_exchangeGoals_41 : decode cX3_exchangeGoals 41 = .ok (.istore 5, 2) := by decide +kernel
theorem dX3_exchangeGoals_43 : decode cX3_exchangeGoals 43 = .ok (.aload 4, 2) := by decide +kernel
theorem dX3_exchangeGoals_45 : decode cX3_exchangeGoals 45 = .ok (.iload_n 2, 1) := by decide +kernel
theorem dX3_exchangeGoals_46 : decode cX3_exchangeGoals 46 = .ok (.aload 4, 2) := by decide +kernel
theorem dX3_exchangeGoals_48 : decode cX3_exchangeGoals 48 = .ok (.iload_n 3, 1) := by decide +kernel
theorem dX3_exchangeGoals_49 : decode cX3_exchangeGoals 49 = .ok (.iaload, 1) := by decide +kernel
theorem dX3_exchangeGoals_50 : decode cX3_exchangeGoals 50 = .ok (.iastore, 1) := by decide +kernel
theorem dX3_exchangeGoals_51 : decode cX3_exchangeGoals 51 = .ok (.aload 4, 2) := by decide +kernel
theorem dX3_exchangeGoals_53 : decode cX3_exchangeGoals 53 = .ok (.iload_n 3, 1) := by decide +kernel
theorem dX3_exchangeGoals_54 : decode cX3_exchangeGoals 54 = .ok (.iload 5, 2) := by decide +kernel
theorem dX3_exchangeGoals_56 : decode cX3_exchangeGoals 56 = .ok (.iastore, 1) := by decide +kernel
theorem dX3_exchangeGoals_57 : decode cX3_exchangeGoals 57 = .ok (.aload 4, 2) := by decide +kernel
theorem dX3_exchangeGoals_59 : decode cX3_exchangeGoals 59 = .ok (.iload_n 2, 1) := by decide +kernel
theorem dX3_exchangeGoals_60 : decode cX3_exchangeGoals 60 = .ok (.iaload, 1) := by decide +kernel
theorem dX3_exchangeGoals_61 : decode cX3_exchangeGoals 61 = .ok (.ireturn, 1) := by decide +kernel
theorem dX3_setTurn_0 : decode cX3_setTurn 0 = .ok (.aload_n 0, 1) := by decide +kernel
theorem dX3_setTurn_1 : decode cX3_setTurn 1 = .ok (.iload_n 1, 1) := by decide +kernel
theorem dX3_setTurn_2 : decode cX3_setTurn 2 = .ok (.iload_n 2, 1) := by decide +kernel
theorem dX3_setTurn_3 : decode cX3_setTurn 3 = .ok (.invokevirtual 76, 3) := by decide +kernel
theorem dX3_setTurn_6 : decode cX3_setTurn 6 = .ok (.ifCond .eq 11, 3) := by decide +kernel
theorem dX3_setTurn_9 : decode cX3_setTurn 9 = .ok (.iload_n 3, 1) := by decide +kernel
theorem dX3_setTurn_10 : decode cX3_setTurn 10 = .ok (.iconst 4, 1) := by decide +kernel
theorem dX3_setTurn_11 : decode cX3_setTurn 11 = .ok (.invokestatic 54, 3) := by decide +kernel
theorem dX3_setTurn_14 : decode cX3_setTurn 14 = .ok (.ifCond .ne 6, 3) := by decide +kernel
theorem dX3_setTurn_17 : decode cX3_setTurn 17 = .ok (.bipush (-2), 2) := by decide +kernel
theorem dX3_setTurn_19 : decode cX3_setTurn 19 = .ok (.ireturn, 1) := by decide +kernel
theorem dX3_setTurn_20 : decode cX3_setTurn 20 = .ok (.aload_n 0, 1) := by decide +kernel
theorem dX3_setTurn_21 : decode cX3_setTurn 21 = .ok (.getfield 20, 3) := by decide +kernel
theorem dX3_setTurn_24 : decode cX3_setTurn 24 = .ok (.iload_n 1, 1) := by decide +kernel
theorem dX3_setTurn_25 : decode cX3_setTurn 25 = .ok (.aaload, 1) := by decide +kernel
theorem dX3_setTurn_26 : decode cX3_setTurn 26 = .ok (.getfield 79, 3) := by decide +kernel
theorem dX3_setTurn_29 : decode cX3_setTurn 29 = .ok (.iload_n 2, 1) := by decide +kernel
theorem dX3_setTurn_30 : decode cX3_setTurn 30 = .ok (.iaload, 1) := by decide +kernel
theorem dX3_setTurn_31 : decode cX3_setTurn 31 = .ok (.istore 4, 2) := by decide +kernel
theorem dX3_setTurn_33 : decode cX3_setTurn 33 = .ok (.aload_n 0, 1) := by decide +kernel
theorem dX3_setTurn_34 : decode cX3_setTurn 34 = .ok (.getfield 20, 3) := by decide +kernel
theorem dX3_setTurn_37 : decode cX3_setTurn 37 = .ok (.iload_n 1, 1) := by decide +kernel
theorem dX3_setTurn_38 : decode cX3_setTurn 38 = .ok (.aaload, 1) := by decide +kernel
theorem dX3_setTurn_39 : decode cX3_setTurn 39 = .ok (.getfield 79, 3) := by decide +kernel
theorem dX3_setTurn_42 : decode cX3_setTurn 42 = .ok (.iload_n 2, 1) := by decide +kernel
theorem dX3_setTurn_43 : decode cX3_setTurn 43 = .ok (.iload_n 3, 1) := by decide +kernel
theorem dX3_setTurn_44 : decode cX3_setTurn 44 = .ok (.iastore, 1) := by decide +kernel
theorem dX3_setTurn_45 : decode cX3_setTurn 45 = .ok (.iload 4, 2) := by decide +kernel
theorem dX3_setTurn_47 : decode cX3_setTurn 47 = .ok (.ireturn, 1) := by decide +kernel
theorem dX3_setWant_0 : decode cX3_setWant 0 = .ok (.aload_n 0, 1) := by decide +kernel
theorem dX3_setWant_1 : decode cX3_setWant 1 = .ok (.iload_n 1, 1) := by decide +kernel
theorem dX3_setWant_2 : decode cX3_setWant 2 = .ok (.iload_n 2, 1) := by decide +kernel
theorem dX3_setWant_3 : decode cX3_setWant 3 = .ok (.invokevirtual 76, 3) := by decide +kernel
theorem dX3_setWant_6 : decode cX3_setWant 6 = .ok (.ifCond .eq 11, 3) := by decide +kernel
theorem dX3_setWant_9 : decode cX3_setWant 9 = .ok (.iload_n 3, 1) := by decide +kernel
theorem dX3_setWant_10 : decode cX3_setWant 10 = .ok (.iconst 3, 1) := by decide +kernel
theorem dX3_setWant_11 : decode cX3_setWant 11 = .ok (.invokestatic 54, 3) := by decide +kernel
theorem dX3_setWant_14 : decode cX3_setWant 14 = .ok (.ifCond .ne 6, 3) := by decide +kernel
theorem dX3_setWant_17 : decode cX3_setWant 17 = .ok (.bipush (-2), 2) := by decide +kernel
theorem dX3_setWant_19 : decode cX3_setWant 19 = .ok (.ireturn, 1) := by decide +kernel
theorem dX3_setWant_20 : decode cX3_setWant 20 = .ok (.aload_n 0, 1) := by decide +kernel
theorem dX3_setWant_21 : decode cX3_setWant 21 = .ok (.getfield 20, 3) := by decide +kernel
theorem dX3_setWant_24 : decode cX3_setWant 24 = .ok (.iload_n 1, 1) := by decide +kernel
theorem dX3_setWant_25 : decode cX3_setWant 25 = .ok (.aaload, 1) := by decide +kernel
theorem dX3_setWant_26 : decode cX3_setWant 26 = .ok (.getfield 82, 3) := by decide +kernel
theorem dX3_setWant_29 : decode cX3_setWant 29 = .ok (.iload_n 2, 1) := by decide +kernel
theorem dX3_setWant_30 : decode cX3_setWant 30 = .ok (.iaload, 1) := by decide +kernel
theorem dX3_setWant_31 : decode cX3_setWant 31 = .ok (.istore 4, 2) := by decide +kernel
theorem dX3_setWant_33 : decode cX3_setWant 33 = .ok (.aload_n 0, 1) := by decide +kernel
theorem dX3_setWant_34 : decode cX3_setWant 34 = .ok (.getfield 20, 3) := by decide +kernel
theorem dX3_setWant_37 : decode cX3_setWant 37 = .ok (.iload_n 1, 1) := by decide +kernel
theorem dX3_setWant_38 : decode cX3_setWant 38 = .ok (.aaload, 1) := by decide +kernel
theorem dX3_setWant_39 : decode cX3_setWant 39 = .ok (.getfield 82, 3) := by decide +kernel
theorem dX3_setWant_42 : decode cX3_setWant 42 = .ok (.iload_n 2, 1) := by decide +kernel
theorem dX3_setWant_43 : decode cX3_setWant 43 = .ok (.iload_n 3, 1) := by decide +kernel
theorem dX3_setWant_44 : decode cX3_setWant 44 = .ok (.iastore, 1) := by decide +kernel
theorem dX3_setWant_45 : decode cX3_setWant 45 = .ok (.iload 4, 2) := by decide +kernel
theorem dX3_setWant_47 : decode cX3_setWant 47 = .ok (.ireturn, 1) := by decide +kernel
theorem dX3_addJoined_0 : decode cX3_addJoined 0 = .ok (.iload_n 1, 1) := by decide +kernel
theorem dX3_addJoined_1 : decode cX3_addJoined 1 = .ok (.aload_n 0, 1) := by decide +kernel
theorem dX3_addJoined_2 : decode cX3_addJoined 2 = .ok (.getfield 41, 3) := by decide +kernel
theorem dX3_addJoined_5 : decode cX3_addJoined 5 = .ok (.invokestatic 54, 3) := by decide +kernel
theorem dX3_addJoined_8 : decode cX3_addJoined 8 = .ok (.ifCond .eq 14, 3) := by decide +kernel
theorem dX3_addJoined_11 : decode cX3_addJoined 11 = .ok (.iload_n 2, 1) := by decide +kernel
theorem dX3_addJoined_12 : decode cX3_addJoined 12 = .ok (.aload_n 0, 1) := by decide +kernel
theorem dX3_addJoined_13 : decode cX3_addJoined 13 = .ok (.getfield 41, 3) := by decide +kernel
theorem dX3_addJoined_16 : decode cX3_addJoined 16 = .ok (.invokestatic 54, 3) := by decide +kernel
theorem dX3_addJoined_19 : decode cX3_addJoined 19 = .ok (.ifCond .ne 6, 3) := by decide +kernel
theorem dX3_addJoined_22 : decode cX3_addJoined 22 = .ok (.bipush (-2), 2) := by decide +kernel
theorem dX3_addJoined_24 : decode cX3_addJoined 24 = .ok (.ireturn, 1) := by decide +kernel
theorem dX3_addJoined_25 : decode cX3_addJoined 25 = .ok (.aload_n 0, 1) := by decide +kernel
theorem dX3_addJoined_26 : decode cX3_addJoined 26 = .ok (.getfield 20, 3) := by decide +kernel
theorem dX3_addJoined_29 : decode cX3_addJoined 29 = .ok (.iload_n 1, 1) := by decide +kernel
theorem dX3_addJoined_30 : decode cX3_addJoined 30 = .ok (.aaload, 1) := by decide +kernel
theorem dX3_addJoined_31 : decode cX3_addJoined 31 = .ok (.aload_n 0, 1) := by decide +kernel
theorem dX3_addJoined_32 : decode cX3_addJoined 32 = .ok (.getfield 20, 3) := by decide +kernel
theorem dX3_addJoined_35 : decode cX3_addJoined 35 = .ok (.iload_n 2, 1) := by decide +kernel
theorem dX3_addJoined_36 : decode cX3_addJoined 36 = .ok (.aaload, 1) := by decide +kernel
theorem dX3_addJoined_37 : decode cX3_addJoined 37 = .ok (.invokevirtual 85, 3) := by decide +kernel
theorem dX3_addJoined_40 : decode cX3_addJoined 40 = .ok (.ifCond .ne 6, 3) := by decide +kernel
theorem dX3_addJoined_43 : decode cX3_addJoined 43 = .ok (.bipush (-3), 2) := by decide +kernel
theorem dX3_addJoined_45 : decode cX3_addJoined 45 = .ok (.ireturn, 1) := by decide +kernel
theorem dX3_addJoined_46 : decode cX3_addJoined 46 = .ok (.aload_n 0, 1) := by decide +kernel
theorem dX3_addJoined_47 : decode cX3_addJoined 47 = .ok (.invokevirtual 69, 3) := by decide +kernel
theorem dX3_addJoined_50 : decode cX3_addJoined 50 = .ok (.istore_n 3, 1) := by decide +kernel
theorem dX3_addJoined_51 : decode cX3_addJoined 51 = .ok (.iload_n 3, 1) := by decide +kernel
theorem dX3_addJoined_52 : decode cX3_addJoined 52 = .ok (.ifCond .lt 24, 3) := by decide +kernel
theorem dX3_addJoined_55 : decode cX3_addJoined 55 = .ok (.aload_n 0, 1) := by decide +kernel
theorem dX3_addJoined_56 : decode cX3_addJoined 56 = .ok (.getfield 20, 3) := by decide +kernel
theorem dX3_addJoined_59 : decode cX3_addJoined 59 = .ok (.iload_n 3, 1) := by decide +kernel
theorem dX3_addJoined_60 : decode cX3_addJoined 60 = .ok (.aaload, 1) := by decide +kernel
theorem dX3_addJoined_61 : decode cX3_addJoined 61 = .ok (.aload_n 0, 1) := by decide +kernel
theorem dX3_addJoined_62 : decode cX3_addJoined 62 = .ok (.getfield 20, 3) := by decide +kernel
theorem dX3_addJoined_65 : decode cX3_addJoined 65 = .ok (.iload_n 1, 1) := by decide +kernel
theorem dX3_addJoined_66 : decode cX3_addJoined 66 = .ok (.aaload, 1) := by decide +kernel
theorem dX3_addJoined_67 : decode cX3_addJoined 67 = .ok (.aload_n 0, 1) := by decide +kernel
theorem dX3_addJoined_68 : decode cX3_addJoined 68 = .ok (.getfield 20, 3) := by decide +kernel
theorem dX3_addJoined_71 : decode cX3_addJoined 71 = .ok (.iload_n 2, 1) := by decide +kernel
theorem dX3_addJoined_72 : decode cX3_addJoined 72 = .ok (.aaload, 1) := by decide +kernel
theorem dX3_addJoined_73 : decode cX3_addJoined 73 = .ok (.invokevirtual 89, 3) := by decide +kernel
theorem dX3_addJoined_76 : decode cX3_addJoined 76 = .ok (.iload_n 3, 1) := by decide +kernel
theorem dX3_addJoined_77 : decode cX3_addJoined 77 = .ok (.ireturn, 1) := by decide +kernel
theorem dX3_addTurnedBack_0 : decode cX3_addTurnedBack 0 = .ok (.iload_n 1, 1) := by decide +kernel
theorem dX3_addTurnedBack_1 : decode cX3_addTurnedBack 1 = .ok (.aload_n 0, 1) := by decide +kernel
theorem dX3_addTurnedBack_2 : decode cX3_addTurnedBack 2 = .ok (.getfield 41, 3) := by decide +kernel
theorem dX3_addTurnedBack_5 : decode cX3_addTurnedBack 5 = .ok (.invokestatic 54, 3) := by decide +kernel
theorem dX3_addTurnedBack_8 : decode cX3_addTurnedBack 8 = .ok (.ifCond .ne 6, 3) := by decide +kernel
theorem dX3_addTurnedBack_11 : decode cX3_addTurnedBack 11 = .ok (.bipush (-2), 2) := by decide +kernel
theorem dX3_addTurnedBack_13 : decode cX3_addTurnedBack 13 = .ok (.ireturn, 1) := by decide +kernel
theorem dX3_addTurnedBack_14 : decode cX3_addTurnedBack 14 = .ok (.aload_n 0, 1) := by decide +kernel
theorem dX3_addTurnedBack_15 : decode cX3_addTurnedBack 15 = .ok (.invokevirtual 69, 3) := by decide +kernel
theorem dX3_addTurnedBack_18 : decode cX3_addTurnedBack 18 = .ok (.istore_n 2, 1) := by decide +kernel
theorem dX3_addTurnedBack_19 : decode cX3_addTurnedBack 19 = .ok (.iload_n 2, 1) := by decide +kernel
theorem dX3_addTurnedBack_20 : decode cX3_addTurnedBack 20 = .ok (.ifCond .lt 18, 3) := by decide +kernel
theorem dX3_addTurnedBack_23 : decode cX3_addTurnedBack 23 = .ok (.aload_n 0, 1) := by decide +kernel
theorem dX3_addTurnedBack_24 : decode cX3_addTurnedBack 24 = .ok (.getfield 20, 3) := by decide +kernel
theorem dX3_addTurnedBack_27 : decode cX3_addTurnedBack 27 = .ok (.iload_n 2, 1) := by decide +kernel
theorem dX3_addTurnedBack_28 : decode cX3_addTurnedBack 28 = .ok (.aaload, 1) := by decide +kernel
theorem dX3_addTurnedBack_29 : decode cX3_addTurnedBack 29 = .ok (.aload_n 0, 1) := by decide +kernel
theorem dX3_addTurnedBack_30 : decode cX3_addTurnedBack 30 = .ok (.getfield 20, 3) := by decide +kernel
theorem dX3_addTurnedBack_33 : decode cX3_addTurnedBack 33 = .ok (.iload_n 1, 1) := by decide +kernel
theorem dX3_addTurnedBack_34 : decode cX3_addTurnedBack 34 = .ok (.aaload, 1) := by decide +kernel
theorem dX3_addTurnedBack_35 : decode cX3_addTurnedBack 35 = .ok (.invokevirtual 93, 3) := by decide +kernel
theorem dX3_addTurnedBack_38 : decode cX3_addTurnedBack 38 = .ok (.iload_n 2, 1) := by decide +kernel
theorem dX3_addTurnedBack_39 : decode cX3_addTurnedBack 39 = .ok (.ireturn, 1) := by decide +kernel
theorem dX3_give_0 : decode cX3_give 0 = .ok (.iload_n 1, 1) := by decide +kernel
theorem dX3_give_1 : decode cX3_give 1 = .ok (.aload_n 0, 1) := by decide +kernel
theorem dX3_give_2 : decode cX3_give 2 = .ok (.getfield 41, 3) := by decide +kernel
theorem dX3_give_5 : decode cX3_give 5 = .ok (.invokestatic 54, 3) := by decide +kernel
theorem dX3_give_8 : decode cX3_give 8 = .ok (.ifCond .ne 6, 3) := by decide +kernel
theorem dX3_give_11 : decode cX3_give 11 = .ok (.bipush (-2), 2) := by decide +kernel
theorem dX3_give_13 : decode cX3_give 13 = .ok (.ireturn, 1) := by decide +kernel
theorem dX3_give_14 : decode cX3_give 14 = .ok (.aload_n 0, 1) := by decide +kernel
theorem dX3_give_15 : decode cX3_give 15 = .ok (.getfield 20, 3) := by decide +kernel
theorem dX3_give_18 : decode cX3_give 18 = .ok (.iload_n 1, 1) := by decide +kernel
theorem dX3_give_19 : decode cX3_give 19 = .ok (.aaload, 1) := by decide +kernel
theorem dX3_give_20 : decode cX3_give 20 = .ok (.aload_n 0, 1) := by decide +kernel
theorem dX3_give_21 : decode cX3_give 21 = .ok (.getfield 9, 3) := by decide +kernel
theorem dX3_give_24 : decode cX3_give 24 = .ok (.aload_n 0, 1) := by decide +kernel
theorem dX3_give_25 : decode cX3_give 25 = .ok (.getfield 31, 3) := by decide +kernel
theorem dX3_give_28 : decode cX3_give 28 = .ok (.invokestatic 96, 3) := by decide +kernel
theorem dX3_give_31 : decode cX3_give 31 = .ok (.invokevirtual 100, 3) := by decide +kernel
theorem dX3_give_34 : decode cX3_give 34 = .ok (.ifCond .ne 6, 3) := by decide +kernel
theorem dX3_give_37 : decode cX3_give 37 = .ok (.bipush (-3), 2) := by decide +kernel
theorem dX3_give_39 : decode cX3_give 39 = .ok (.ireturn, 1) := by decide +kernel
theorem dX3_give_40 : decode cX3_give 40 = .ok (.aload_n 0, 1) := by decide +kernel
theorem dX3_give_41 : decode cX3_give 41 = .ok (.dup, 1) := by decide +kernel
theorem dX3_give_42 : decode cX3_give 42 = .ok (.getfield 51, 3) := by decide +kernel
theorem dX3_give_45 : decode cX3_give 45 = .ok (.iconst 1, 1) := by decide +kernel
theorem dX3_give_46 : decode cX3_give 46 = .ok (.iadd, 1) := by decide +kernel
theorem dX3_give_47 : decode cX3_give 47 = .ok (.putfield 51, 3) := by decide +kernel
theorem dX3_give_50 : decode cX3_give 50 = .ok (.aload_n 0, 1) := by decide +kernel
theorem dX3_give_51 : decode cX3_give 51 = .ok (.aload_n 0, 1) := by decide +kernel
theorem dX3_give_52 : decode cX3_give 52 = .ok (.getfield 9, 3) := by decide +kernel
theorem dX3_give_55 : decode cX3_give 55 = .ok (.aload_n 0, 1) := by decide +kernel
theorem dX3_give_56 : decode cX3_give 56 = .ok (.getfield 20, 3) := by decide +kernel
theorem dX3_give_59 : decode cX3_give 59 = .ok (.iload_n 1, 1) := by decide +kernel
theorem dX3_give_60 : decode cX3_give 60 = .ok (.aaload, 1) := by decide +kernel
theorem dX3_give_61 : decode cX3_give 61 = .ok (.invokevirtual 103, 3) := by decide +kernel
theorem dX3_give_64 : decode cX3_give 64 = .ok (.ireturn, 1) := by decide +kernel
theorem dX3_sendHome_0 : decode cX3_sendHome 0 = .ok (.aload_n 0, 1) := by decide +kernel
theorem dX3_sendHome_1 : decode cX3_sendHome 1 = .ok (.getfield 31, 3) := by decide +kernel
theorem dX3_sendHome_4 : decode cX3_sendHome 4 = .ok (.aload_n 0, 1) := by decide +kernel
theorem dX3_sendHome_5 : decode cX3_sendHome 5 = .ok (.invokevirtual 107, 3) := by decide +kernel
theorem dX3_sendHome_8 : decode cX3_sendHome 8 = .ok (.isub, 1) := by decide +kernel
theorem dX3_sendHome_9 : decode cX3_sendHome 9 = .ok (.istore_n 1, 1) := by decide +kernel
theorem dX3_sendHome_10 : decode cX3_sendHome 10 = .ok (.aload_n 0, 1) := by decide +kernel
theorem dX3_sendHome_11 : decode cX3_sendHome 11 = .ok (.getfield 15, 3) := by decide +kernel
theorem dX3_sendHome_14 : decode cX3_sendHome 14 = .ok (.iconst 0, 1) := by decide +kernel
theorem dX3_sendHome_15 : decode cX3_sendHome 15 = .ok (.aload_n 0, 1) := by decide +kernel
theorem dX3_sendHome_16 : decode cX3_sendHome 16 = .ok (.getfield 9, 3) := by decide +kernel
theorem dX3_sendHome_19 : decode cX3_sendHome 19 = .ok (.iconst 0, 1) := by decide +kernel
theorem dX3_sendHome_20 : decode cX3_sendHome 20 = .ok (.bipush 8, 2) := by decide +kernel
theorem dX3_sendHome_22 : decode cX3_sendHome 22 = .ok (.invokestatic 35, 3) := by decide +kernel
theorem dX3_sendHome_25 : decode cX3_sendHome 25 = .ok (.iload_n 1, 1) := by decide +kernel
theorem dX3_sendHome_26 : decode cX3_sendHome 26 = .ok (.ireturn, 1) := by decide +kernel
theorem dX3_addToPlan_0 : decode cX3_addToPlan 0 = .ok (.iload_n 1, 1) := by decide +kernel
theorem dX3_addToPlan_1 : decode cX3_addToPlan 1 = .ok (.aload_n 0, 1) := by decide +kernel
theorem dX3_addToPlan_2 : decode cX3_addToPlan 2 = .ok (.getfield 41, 3) := by decide +kernel
theorem dX3_addToPlan_5 : decode cX3_addToPlan 5 = .ok (.invokestatic 54, 3) := by decide +kernel
theorem dX3_addToPlan_8 : decode cX3_addToPlan 8 = .ok (.ifCond .ne 6, 3) := by decide +kernel
theorem dX3_addToPlan_11 : decode cX3_addToPlan 11 = .ok (.bipush (-2), 2) := by decide +kernel
theorem dX3_addToPlan_13 : decode cX3_addToPlan 13 = .ok (.ireturn, 1) := by decide +kernel
theorem dX3_addToPlan_14 : decode cX3_addToPlan 14 = .ok (.aload_n 0, 1) := by decide +kernel
theorem dX3_addToPlan_15 : decode cX3_addToPlan 15 = .ok (.getfield 48, 3) := by decide +kernel
theorem dX3_addToPlan_18 : decode cX3_addToPlan 18 = .ok (.bipush 12, 2) := by decide +kernel
theorem dX3_addToPlan_20 : decode cX3_addToPlan 20 = .ok (.if_icmp .lt 6, 3) := by decide +kernel
theorem dX3_addToPlan_23 : decode cX3_addToPlan 23 = .ok (.bipush (-4), 2) := by decide +kernel
theorem dX3_addToPlan_25 : decode cX3_addToPlan 25 = .ok (.ireturn, 1) := by decide +kernel
theorem dX3_addToPlan_26 : decode cX3_addToPlan 26 = .ok (.aload_n 0, 1) := by decide +kernel
theorem dX3_addToPlan_27 : decode cX3_addToPlan 27 = .ok (.getfield 24, 3) := by decide +kernel
theorem dX3_addToPlan_30 : decode cX3_addToPlan 30 = .ok (.aload_n 0, 1) := by decide +kernel
theorem dX3_addToPlan_31 : decode cX3_addToPlan 31 = .ok (.getfield 48, 3) := by decide +kernel
theorem dX3_addToPlan_34 : decode cX3_addToPlan 34 = .ok (.iload_n 1, 1) := by decide +kernel
theorem dX3_addToPlan_35 : decode cX3_addToPlan 35 = .ok (.iastore, 1) := by decide +kernel
theorem dX3_addToPlan_36 : decode cX3_addToPlan 36 = .ok (.aload_n 0, 1) := by decide +kernel
theorem dX3_addToPlan_37 : decode cX3_addToPlan 37 = .ok (.dup, 1) := by decide +kernel
theorem dX3_addToPlan_38 : decode cX3_addToPlan 38 = .ok (.getfield 48, 3) := by decide +kernel
theorem dX3_addToPlan_41 : decode cX3_addToPlan 41 = .ok (.iconst 1, 1) := by decide +kernel
theorem dX3_addToPlan_42 : decode cX3_addToPlan 42 = .ok (.iadd, 1) := by decide +kernel
theorem dX3_addToPlan_43 : decode cX3_addToPlan 43 = .ok (.putfield 48, 3) := by decide +kernel
theorem dX3_addToPlan_46 : decode cX3_addToPlan 46 = .ok (.aload_n 0, 1) := by decide +kernel
theorem dX3_addToPlan_47 : decode cX3_addToPlan 47 = .ok (.getfield 48, 3) := by decide +kernel
theorem dX3_addToPlan_50 : decode cX3_addToPlan 50 = .ok (.ireturn, 1) := by decide +kernel
theorem dX3_emptyPlan_0 : decode cX3_emptyPlan 0 = .ok (.aload_n 0, 1) := by decide +kernel
theorem dX3_emptyPlan_1 : decode cX3_emptyPlan 1 = .ok (.getfield 48, 3) := by decide +kernel
theorem dX3_emptyPlan_4 : decode cX3_emptyPlan 4 = .ok (.istore_n 1, 1) := by decide +kernel
theorem dX3_emptyPlan_5 : decode cX3_emptyPlan 5 = .ok (.aload_n 0, 1) := by decide +kernel
theorem dX3_emptyPlan_6 : decode cX3_emptyPlan 6 = .ok (.iconst 0, 1) := by decide +kernel
theorem dX3_emptyPlan_7 : decode cX3_emptyPlan 7 = .ok (.putfield 48, 3) := by decide +kernel
theorem dX3_emptyPlan_10 : decode cX3_emptyPlan 10 = .ok (.iload_n 1, 1) := by decide +kernel
theorem dX3_emptyPlan_11 : decode cX3_emptyPlan 11 = .ok (.ireturn, 1) := by decide +kernel
theorem dX3_followPlan_0 : decode cX3_followPlan 0 = .ok (.aload_n 0, 1) := by decide +kernel
theorem dX3_followPlan_1 : decode cX3_followPlan 1 = .ok (.getfield 9, 3) := by decide +kernel
theorem dX3_followPlan_4 : decode cX3_followPlan 4 = .ok (.iconst 0, 1) := by decide +kernel
theorem dX3_followPlan_5 : decode cX3_followPlan 5 = .ok (.aload_n 0, 1) := by decide +kernel
theorem dX3_followPlan_6 : decode cX3_followPlan 6 = .ok (.getfield 27, 3) := by decide +kernel
theorem dX3_followPlan_9 : decode cX3_followPlan 9 = .ok (.iconst 0, 1) := by decide +kernel
theorem dX3_followPlan_10 : decode cX3_followPlan 10 = .ok (.bipush 8, 2) := by decide +kernel
theorem dX3_followPlan_12 : decode cX3_followPlan 12 = .ok (.invokestatic 35, 3) := by decide +kernel
theorem dX3_followPlan_15 : decode cX3_followPlan 15 = .ok (.iconst 0, 1) := by decide +kernel
theorem dX3_followPlan_16 : decode cX3_followPlan 16 = .ok (.istore_n 1, 1) := by decide +kernel
theorem dX3_followPlan_17 : decode cX3_followPlan 17 = .ok (.iload_n 1, 1) := by decide +kernel
theorem dX3_followPlan_18 : decode cX3_followPlan 18 = .ok (.aload_n 0, 1) := by decide +kernel
theorem dX3_followPlan_19 : decode cX3_followPlan 19 = .ok (.getfield 48, 3) := by decide +kernel
theorem dX3_followPlan_22 : decode cX3_followPlan 22 = .ok (.if_icmp .ge 51, 3) := by decide +kernel
theorem dX3_followPlan_25 : decode cX3_followPlan 25 = .ok (.aload_n 0, 1) := by decide +kernel
theorem dX3_followPlan_26 : decode cX3_followPlan 26 = .ok (.getfield 20, 3) := by decide +kernel
theorem dX3_followPlan_29 : decode cX3_followPlan 29 = .ok (.aload_n 0, 1) := by decide +kernel
theorem dX3_followPlan_30 : decode cX3_followPlan 30 = .ok (.getfield 24, 3) := by decide +kernel
theorem dX3_followPlan_33 : decode cX3_followPlan 33 = .ok (.iload_n 1, 1) := by decide +kernel
theorem dX3_followPlan_34 : decode cX3_followPlan 34 = .ok (.iaload, 1) := by decide +kernel
theorem dX3_followPlan_35 : decode cX3_followPlan 35 = .ok (.aaload, 1) := by decide +kernel
theorem dX3_followPlan_36 : decode cX3_followPlan 36 = .ok (.astore_n 2, 1) := by decide +kernel
theorem dX3_followPlan_37 : decode cX3_followPlan 37 = .ok (.aload_n 2, 1) := by decide +kernel
theorem dX3_followPlan_38 : decode cX3_followPlan 38 = .ok (.aload_n 0, 1) := by decide +kernel
theorem dX3_followPlan_39 : decode cX3_followPlan 39 = .ok (.getfield 27, 3) := by decide +kernel
theorem dX3_followPlan_42 : decode cX3_followPlan 42 = .ok (.aload_n 0, 1) := by decide +kernel
theorem dX3_followPlan_43 : decode cX3_followPlan 43 = .ok (.getfield 31, 3) := by decide +kernel
theorem dX3_followPlan_46 : decode cX3_followPlan 46 = .ok (.invokestatic 96, 3) := by decide +kernel
theorem dX3_followPlan_49 : decode cX3_followPlan 49 = .ok (.invokevirtual 100, 3) := by decide +kernel
theorem dX3_followPlan_52 : decode cX3_followPlan 52 = .ok (.ifCond .ne 5, 3) := by decide +kernel
theorem dX3_followPlan_55 : decode cX3_followPlan 55 = .ok (.iload_n 1, 1) := by decide +kernel
theorem dX3_followPlan_56 : decode cX3_followPlan 56 = .ok (.ireturn, 1) := by decide +kernel
theorem dX3_followPlan_57 : decode cX3_followPlan 57 = .ok (.aload_n 0, 1) := by decide +kernel
theorem dX3_followPlan_58 : decode cX3_followPlan 58 = .ok (.aload_n 0, 1) := by decide +kernel
theorem dX3_followPlan_59 : decode cX3_followPlan 59 = .ok (.getfield 27, 3) := by decide +kernel
theorem dX3_followPlan_62 : decode cX3_followPlan 62 = .ok (.aload_n 2, 1) := by decide +kernel
theorem dX3_followPlan_63 : decode cX3_followPlan 63 = .ok (.invokevirtual 103, 3) := by decide +kernel
theorem dX3_followPlan_66 : decode cX3_followPlan 66 = .ok (.pop, 1) := by decide +kernel
theorem dX3_followPlan_67 : decode cX3_followPlan 67 = .ok (.iinc 1 1, 3) := by decide +kernel
theorem dX3_followPlan_70 : decode cX3_followPlan 70 = .ok (.goto (-53), 3) := by decide +kernel
theorem dX3_followPlan_73 : decode cX3_followPlan 73 = .ok (.iconst (-1), 1) := by decide +kernel
theorem dX3_followPlan_74 : decode cX3_followPlan 74 = .ok (.ireturn, 1) := by decide +kernel
theorem dX3_askPlanned_0 : decode cX3_askPlanned 0 = .ok (.iload_n 1, 1) := by decide +kernel
theorem dX3_askPlanned_1 : decode cX3_askPlanned 1 = .ok (.aload_n 0, 1) := by decide +kernel
theorem dX3_askPlanned_2 : decode cX3_askPlanned 2 = .ok (.getfield 31, 3) := by decide +kernel
theorem dX3_askPlanned_5 : decode cX3_askPlanned 5 = .ok (.invokestatic 54, 3) := by decide +kernel
theorem dX3_askPlanned_8 : decode cX3_askPlanned 8 = .ok (.ifCond .eq 11, 3) := by decide +kernel
theorem dX3_askPlanned_11 : decode cX3_askPlanned 11 = .ok (.iload_n 2, 1) := by decide +kernel
theorem dX3_askPlanned_12 : decode cX3_askPlanned 12 = .ok (.iconst 2, 1) := by decide +kernel
theorem dX3_askPlanned_13 : decode cX3_askPlanned 13 = .ok (.invokestatic 54, 3) := by decide +kernel
theorem dX3_askPlanned_16 : decode cX3_askPlanned 16 = .ok (.ifCond .ne 6, 3) := by decide +kernel
theorem dX3_askPlanned_19 : decode cX3_askPlanned 19 = .ok (.bipush (-2), 2) := by decide +kernel
theorem dX3_askPlanned_21 : decode cX3_askPlanned 21 = .ok (.ireturn, 1) := by decide +kernel
theorem dX3_askPlanned_22 : decode cX3_askPlanned 22 = .ok (.aload_n 0, 1) := by decide +kernel
theorem dX3_askPlanned_23 : decode cX3_askPlanned 23 = .ok (.invokevirtual 110, 3) := by decide +kernel
theorem dX3_askPlanned_26 : decode cX3_askPlanned 26 = .ok (.pop, 1) := by decide +kernel
theorem dX3_askPlanned_27 : decode cX3_askPlanned 27 = .ok (.iload_n 2, 1) := by decide +kernel
theorem dX3_askPlanned_28 : decode cX3_askPlanned 28 = .ok (.ifCond .ne 14, 3) := by decide +kernel
theorem dX3_askPlanned_31 : decode cX3_askPlanned 31 = .ok (.aload_n 0, 1) := by decide +kernel
theorem dX3_askPlanned_32 : decode cX3_askPlanned 32 = .ok (.getfield 27, 3) := by decide +kernel
theorem dX3_askPlanned_35 : decode cX3_askPlanned 35 = .ok (.iload_n 1, 1) := by decide +kernel
theorem dX3_askPlanned_36 : decode cX3_askPlanned 36 = .ok (.iaload, 1) := by decide +kernel
theorem dX3_askPlanned_37 : decode cX3_askPlanned 37 = .ok (.iconst 4, 1) := by decide +kernel
theorem dX3_askPlanned_38 : decode cX3_askPlanned 38 = .ok (.idiv, 1) := by decide +kernel
theorem dX3_askPlanned_39 : decode cX3_askPlanned 39 = .ok (.goto 11, 3) := by decide +kernel
theorem dX3_askPlanned_42 : decode cX3_askPlanned 42 = .ok (.aload_n 0, 1) := by decide +kernel
theorem dX3_askPlanned_43 : decode cX3_askPlanned 43 = .ok (.getfield 27, 3) := by decide +kernel
theorem dX3_askPlanned_46 : decode cX3_askPlanned 46 = .ok (.iload_n 1, 1) := by decide +kernel
theorem dX3_askPlanned_47 : decode cX3_askPlanned 47 = .ok (.iaload, 1) := by decide +kernel
theorem dX3_askPlanned_48 : decode cX3_askPlanned 48 = .ok (.iconst 4, 1) := by decide +kernel
theorem dX3_askPlanned_49 : decode cX3_askPlanned 49 = .ok (.irem, 1) := by decide +kernel
theorem dX3_askPlanned_50 : decode cX3_askPlanned 50 = .ok (.ireturn, 1) := by decide +kernel
theorem dX3_askDancer_0 : decode cX3_askDancer 0 = .ok (.iload_n 1, 1) := by decide +kernel
theorem dX3_askDancer_1 : decode cX3_askDancer 1 = .ok (.aload_n 0, 1) := by decide +kernel
theorem dX3_askDancer_2 : decode cX3_askDancer 2 = .ok (.getfield 31, 3) := by decide +kernel
theorem dX3_askDancer_5 : decode cX3_askDancer 5 = .ok (.invokestatic 54, 3) := by decide +kernel
theorem dX3_askDancer_8 : decode cX3_askDancer 8 = .ok (.ifCond .ne 6, 3) := by decide +kernel
theorem dX3_askDancer_11 : decode cX3_askDancer 11 = .ok (.bipush (-2), 2) := by decide +kernel
theorem dX3_askDancer_13 : decode cX3_askDancer 13 = .ok (.ireturn, 1) := by decide +kernel
theorem dX3_askDancer_14 : decode cX3_askDancer 14 = .ok (.iload_n 2, 1) := by decide +kernel
theorem dX3_askDancer_15 : decode cX3_askDancer 15 = .ok (.tableswitch 118 0 6 #[41, 50, 59, 68, 77, 98, 104], 41) := by decide +kernel
theorem dX3_askDancer_56 : decode cX3_askDancer 56 = .ok (.aload_n 0, 1) := by decide +kernel
theorem dX3_askDancer_57 : decode cX3_askDancer 57 = .ok (.getfield 9, 3) := by decide +kernel
theorem dX3_askDancer_60 : decode cX3_askDancer 60 = .ok (.iload_n 1, 1) := by decide +kernel
theorem dX3_askDancer_61 : decode cX3_askDancer 61 = .ok (.iaload, 1) := by decide +kernel
theorem dX3_askDancer_62 : decode cX3_askDancer 62 = .ok (.iconst 4, 1) := by decide +kernel
theorem dX3_askDancer_63 : decode cX3_askDancer 63 = .ok (.idiv, 1) := by decide +kernel
theorem dX3_askDancer_64 : decode cX3_askDancer 64 = .ok (.ireturn, 1) := by decide +kernel
theorem dX3_askDancer_65 : decode cX3_askDancer 65 = .ok (.aload_n 0, 1) := by decide +kernel
theorem dX3_askDancer_66 : decode cX3_askDancer 66 = .ok (.getfield 9, 3) := by decide +kernel
theorem dX3_askDancer_69 : decode cX3_askDancer 69 = .ok (.iload_n 1, 1) := by decide +kernel
theorem dX3_askDancer_70 : decode cX3_askDancer 70 = .ok (.iaload, 1) := by decide +kernel
theorem dX3_askDancer_71 : decode cX3_askDancer 71 = .ok (.iconst 4, 1) := by decide +kernel
theorem dX3_askDancer_72 : decode cX3_askDancer 72 = .ok (.irem, 1) := by decide +kernel
theorem dX3_askDancer_73 : decode cX3_askDancer 73 = .ok (.ireturn, 1) := by decide +kernel
theorem dX3_askDancer_74 : decode cX3_askDancer 74 = .ok (.aload_n 0, 1) := by decide +kernel
theorem dX3_askDancer_75 : decode cX3_askDancer 75 = .ok (.getfield 15, 3) := by decide +kernel
theorem dX3_askDancer_78 : decode cX3_askDancer 78 = .ok (.iload_n 1, 1) := by decide +kernel
theorem dX3_askDancer_79 : decode cX3_askDancer 79 = .ok (.iaload, 1) := by decide +kernel
theorem dX3_askDancer_80 : decode cX3_askDancer 80 = .ok (.iconst 4, 1) := by decide +kernel
theorem dX3_askDancer_81 : decode cX3_askDancer 81 = .ok (.idiv, 1) := by decide +kernel
theorem dX3_askDancer_82 : decode cX3_askDancer 82 = .ok (.ireturn, 1) := by decide +kernel
theorem dX3_askDancer_83 : decode cX3_askDancer 83 = .ok (.aload_n 0, 1) := by decide +kernel
theorem dX3_askDancer_84 : decode cX3_askDancer 84 = .ok (.getfield 15, 3) := by decide +kernel
theorem dX3_askDancer_87 : decode cX3_askDancer 87 = .ok (.iload_n 1, 1) := by decide +kernel
theorem dX3_askDancer_88 : decode cX3_askDancer 88 = .ok (.iaload, 1) := by decide +kernel
theorem dX3_askDancer_89 : decode cX3_askDancer 89 = .ok (.iconst 4, 1) := by decide +kernel
theorem dX3_askDancer_90 : decode cX3_askDancer 90 = .ok (.irem, 1) := by decide +kernel
theorem dX3_askDancer_91 : decode cX3_askDancer 91 = .ok (.ireturn, 1) := by decide +kernel
theorem dX3_askDancer_92 : decode cX3_askDancer 92 = .ok (.aload_n 0, 1) := by decide +kernel
theorem dX3_askDancer_93 : decode cX3_askDancer 93 = .ok (.getfield 9, 3) := by decide +kernel
theorem dX3_askDancer_96 : decode cX3_askDancer 96 = .ok (.iload_n 1, 1) := by decide +kernel
theorem dX3_askDancer_97 : decode cX3_askDancer 97 = .ok (.iaload, 1) := by decide +kernel
theorem dX3_askDancer_98 : decode cX3_askDancer 98 = .ok (.aload_n 0, 1) := by decide +kernel
theorem dX3_askDancer_99 : decode cX3_askDancer 99 = .ok (.getfield 15, 3) := by decide +kernel
theorem dX3_askDancer_102 : decode cX3_askDancer 102 = .ok (.iload_n 1, 1) := by decide +kernel
theorem dX3_askDancer_103 : decode cX3_askDancer 103 = .ok (.iaload, 1) := by decide +kernel
theorem dX3_askDancer_104 : decode cX3_askDancer 104 = .ok (.if_icmp .ne 7, 3) := by decide +kernel
theorem dX3_askDancer_107 : decode cX3_askDancer 107 = .ok (.iconst 1, 1) := by decide +kernel
theorem dX3_askDancer_108 : decode cX3_askDancer 108 = .ok (.goto 4, 3) := by decide +kernel
theorem dX3_askDancer_111 : decode cX3_askDancer 111 = .ok (.iconst 0, 1) := by decide +kernel
theorem dX3_askDancer_112 : decode cX3_askDancer 112 = .ok (.ireturn, 1) := by decide +kernel
theorem dX3_askDancer_113 : decode cX3_askDancer 113 = .ok (.aload_n 0, 1) := by decide +kernel
theorem dX3_askDancer_114 : decode cX3_askDancer 114 = .ok (.iload_n 1, 1) := by decide +kernel
theorem dX3_askDancer_115 : decode cX3_askDancer 115 = .ok (.invokevirtual 113, 3) := by decide +kernel
theorem dX3_askDancer_118 : decode cX3_askDancer 118 = .ok (.ireturn, 1) := by decide +kernel
theorem dX3_askDancer_119 : decode cX3_askDancer 119 = .ok (.aload_n 0, 1) := by decide +kernel
theorem dX3_askDancer_120 : decode cX3_askDancer 120 = .ok (.iload_n 1, 1) := by decide +kernel
theorem dX3_askDancer_121 : decode cX3_askDancer 121 = .ok (.invokevirtual 116, 3) := by decide +kernel
theorem dX3_askDancer_124 : decode cX3_askDancer 124 = .ok (.ifCond .eq 7, 3) := by decide +kernel
theorem dX3_askDancer_127 : decode cX3_askDancer 127 = .ok (.iconst 1, 1) := by decide +kernel
theorem dX3_askDancer_128 : decode cX3_askDancer 128 = .ok (.goto 4, 3) := by decide +kernel
theorem dX3_askDancer_131 : decode cX3_askDancer 131 = .ok (.iconst 0, 1) := by decide +kernel
theorem dX3_askDancer_132 : decode cX3_askDancer 132 = .ok (.ireturn, 1) := by decide +kernel
theorem dX3_askDancer_133 : decode cX3_askDancer 133 = .ok (.bipush (-2), 2) := by decide +kernel
theorem dX3_askDancer_135 : decode cX3_askDancer 135 = .ok (.ireturn, 1) := by decide +kernel
theorem dX3_askSpotOfCall_0 : decode cX3_askSpotOfCall 0 = .ok (.aload_n 0, 1) := by decide +kernel
theorem dX3_askSpotOfCall_1 : decode cX3_askSpotOfCall 1 = .ok (.iload_n 1, 1) := by decide +kernel
theorem dX3_askSpotOfCall_2 : decode cX3_askSpotOfCall 2 = .ok (.iload_n 2, 1) := by decide +kernel
theorem dX3_askSpotOfCall_3 : decode cX3_askSpotOfCall 3 = .ok (.invokevirtual 76, 3) := by decide +kernel
theorem dX3_askSpotOfCall_6 : decode cX3_askSpotOfCall 6 = .ok (.ifCond .ne 6, 3) := by decide +kernel
theorem dX3_askSpotOfCall_9 : decode cX3_askSpotOfCall 9 = .ok (.bipush (-2), 2) := by decide +kernel
theorem dX3_askSpotOfCall_11 : decode cX3_askSpotOfCall 11 = .ok (.ireturn, 1) := by decide +kernel
theorem dX3_askSpotOfCall_12 : decode cX3_askSpotOfCall 12 = .ok (.iload_n 3, 1) := by decide +kernel
theorem dX3_askSpotOfCall_13 : decode cX3_askSpotOfCall 13 = .ok (.tableswitch 63 0 2 #[27, 39, 51], 27) := by decide +kernel
theorem dX3_askSpotOfCall_40 : decode cX3_askSpotOfCall 40 = .ok (.aload_n 0, 1) := by decide +kernel
theorem dX3_askSpotOfCall_41 : decode cX3_askSpotOfCall 41 = .ok (.getfield 20, 3) := by decide +kernel
theorem dX3_askSpotOfCall_44 : decode cX3_askSpotOfCall 44 = .ok (.iload_n 1, 1) := by decide +kernel
theorem dX3_askSpotOfCall_45 : decode cX3_askSpotOfCall 45 = .ok (.aaload, 1) := by decide +kernel
theorem dX3_askSpotOfCall_46 : decode cX3_askSpotOfCall 46 = .ok (.getfield 73, 3) := by decide +kernel
theorem dX3_askSpotOfCall_49 : decode cX3_askSpotOfCall 49 = .ok (.iload_n 2, 1) := by decide +kernel
theorem dX3_askSpotOfCall_50 : decode cX3_askSpotOfCall 50 = .ok (.iaload, 1) := by decide +kernel
theorem dX3_askSpotOfCall_51 : decode cX3_askSpotOfCall 51 = .ok (.ireturn, 1) := by decide +kernel
theorem dX3_askSpotOfCall_52 : decode cX3_askSpotOfCall 52 = .ok (.aload_n 0, 1) := by decide +kernel
theorem dX3_askSpotOfCall_53 : decode cX3_askSpotOfCall 53 = .ok (.getfield 20, 3) := by decide +kernel
theorem dX3_askSpotOfCall_56 : decode cX3_askSpotOfCall 56 = .ok (.iload_n 1, 1) := by decide +kernel
theorem dX3_askSpotOfCall_57 : decode cX3_askSpotOfCall 57 = .ok (.aaload, 1) := by decide +kernel
theorem dX3_askSpotOfCall_58 : decode cX3_askSpotOfCall 58 = .ok (.getfield 79, 3) := by decide +kernel
theorem dX3_askSpotOfCall_61 : decode cX3_askSpotOfCall 61 = .ok (.iload_n 2, 1) := by decide +kernel
theorem dX3_askSpotOfCall_62 : decode cX3_askSpotOfCall 62 = .ok (.iaload, 1) := by decide +kernel
theorem dX3_askSpotOfCall_63 : decode cX3_askSpotOfCall 63 = .ok (.ireturn, 1) := by decide +kernel
theorem dX3_askSpotOfCall_64 : decode cX3_askSpotOfCall 64 = .ok (.aload_n 0, 1) := by decide +kernel
theorem dX3_askSpotOfCall_65 : decode cX3_askSpotOfCall 65 = .ok (.getfield 20, 3) := by decide +kernel
theorem dX3_askSpotOfCall_68 : decode cX3_askSpotOfCall 68 = .ok (.iload_n 1, 1) := by decide +kernel
theorem dX3_askSpotOfCall_69 : decode cX3_askSpotOfCall 69 = .ok (.aaload, 1) := by decide +kernel
theorem dX3_askSpotOfCall_70 : decode cX3_askSpotOfCall 70 = .ok (.getfield 82, 3) := by decide +kernel
theorem dX3_askSpotOfCall_73 : decode cX3_askSpotOfCall 73 = .ok (.iload_n 2, 1) := by decide +kernel
theorem dX3_askSpotOfCall_74 : decode cX3_askSpotOfCall 74 = .ok (.iaload, 1) := by decide +kernel
theorem dX3_askSpotOfCall_75 : decode cX3_askSpotOfCall 75 = .ok (.ireturn, 1) := by decide +kernel
theorem dX3_askSpotOfCall_76 : decode cX3_askSpotOfCall 76 = .ok (.bipush (-2), 2) := by decide +kernel
theorem dX3_askSpotOfCall_78 : decode cX3_askSpotOfCall 78 = .ok (.ireturn, 1) := by decide +kernel
theorem dX3_askCall_0 : decode cX3_askCall 0 = .ok (.iload_n 1, 1) := by decide +kernel
theorem dX3_askCall_1 : decode cX3_askCall 1 = .ok (.aload_n 0, 1) := by decide +kernel
theorem dX3_askCall_2 : decode cX3_askCall 2 = .ok (.getfield 41, 3) := by decide +kernel
theorem dX3_askCall_5 : decode cX3_askCall 5 = .ok (.invokestatic 54, 3) := by decide +kernel
theorem dX3_askCall_8 : decode cX3_askCall 8 = .ok (.ifCond .ne 6, 3) := by decide +kernel
theorem dX3_askCall_11 : decode cX3_askCall 11 = .ok (.bipush (-2), 2) := by decide +kernel
theorem dX3_askCall_13 : decode cX3_askCall 13 = .ok (.ireturn, 1) := by decide +kernel
theorem dX3_askCall_14 : decode cX3_askCall 14 = .ok (.iload_n 2, 1) := by decide +kernel
theorem dX3_askCall_15 : decode cX3_askCall 15 = .ok (.tableswitch 88 0 3 #[29, 58, 68, 78], 29) := by decide +kernel
theorem dX3_askCall_44 : decode cX3_askCall 44 = .ok (.aload_n 0, 1) := by decide +kernel
theorem dX3_askCall_45 : decode cX3_askCall 45 = .ok (.getfield 20, 3) := by decide +kernel
theorem dX3_askCall_48 : decode cX3_askCall 48 = .ok (.iload_n 1, 1) := by decide +kernel
theorem dX3_askCall_49 : decode cX3_askCall 49 = .ok (.aaload, 1) := by decide +kernel
theorem dX3_askCall_50 : decode cX3_askCall 50 = .ok (.aload_n 0, 1) := by decide +kernel
theorem dX3_askCall_51 : decode cX3_askCall 51 = .ok (.getfield 9, 3) := by decide +kernel
theorem dX3_askCall_54 : decode cX3_askCall 54 = .ok (.aload_n 0, 1) := by decide +kernel
theorem dX3_askCall_55 : decode cX3_askCall 55 = .ok (.getfield 31, 3) := by decide +kernel
theorem dX3_askCall_58 : decode cX3_askCall 58 = .ok (.invokestatic 96, 3) := by decide +kernel
theorem dX3_askCall_61 : decode cX3_askCall 61 = .ok (.invokevirtual 100, 3) := by decide +kernel
theorem dX3_askCall_64 : decode cX3_askCall 64 = .ok (.ifCond .eq 7, 3) := by decide +kernel
theorem dX3_askCall_67 : decode cX3_askCall 67 = .ok (.iconst 1, 1) := by decide +kernel
theorem dX3_askCall_68 : decode cX3_askCall 68 = .ok (.goto 4, 3) := by decide +kernel
theorem dX3_askCall_71 : decode cX3_askCall 71 = .ok (.iconst 0, 1) := by decide +kernel
theorem dX3_askCall_72 : decode cX3_askCall 72 = .ok (.ireturn, 1) := by decide +kernel
theorem dX3_askCall_73 : decode cX3_askCall 73 = .ok (.aload_n 0, 1) := by decide +kernel
theorem dX3_askCall_74 : decode cX3_askCall 74 = .ok (.getfield 20, 3) := by decide +kernel
theorem dX3_askCall_77 : decode cX3_askCall 77 = .ok (.iload_n 1, 1) := by decide +kernel
theorem dX3_askCall_78 : decode cX3_askCall 78 = .ok (.aaload, 1) := by decide +kernel
theorem dX3_askCall_79 : decode cX3_askCall 79 = .ok (.invokevirtual 119, 3) := by decide +kernel
theorem dX3_askCall_82 : decode cX3_askCall 82 = .ok (.ireturn, 1) := by decide +kernel
theorem dX3_askCall_83 : decode cX3_askCall 83 = .ok (.aload_n 0, 1) := by decide +kernel
theorem dX3_askCall_84 : decode cX3_askCall 84 = .ok (.getfield 20, 3) := by decide +kernel
theorem dX3_askCall_87 : decode cX3_askCall 87 = .ok (.iload_n 1, 1) := by decide +kernel
theorem dX3_askCall_88 : decode cX3_askCall 88 = .ok (.aaload, 1) := by decide +kernel
theorem dX3_askCall_89 : decode cX3_askCall 89 = .ok (.invokevirtual 122, 3) := by decide +kernel
theorem dX3_askCall_92 : decode cX3_askCall 92 = .ok (.ireturn, 1) := by decide +kernel
theorem dX3_askCall_93 : decode cX3_askCall 93 = .ok (.aload_n 0, 1) := by decide +kernel
theorem dX3_askCall_94 : decode cX3_askCall 94 = .ok (.getfield 20, 3) := by decide +kernel
theorem dX3_askCall_97 : decode cX3_askCall 97 = .ok (.iload_n 1, 1) := by decide +kernel
theorem dX3_askCall_98 : decode cX3_askCall 98 = .ok (.aaload, 1) := by decide +kernel
theorem dX3_askCall_99 : decode cX3_askCall 99 = .ok (.invokevirtual 125, 3) := by decide +kernel
theorem dX3_askCall_102 : decode cX3_askCall 102 = .ok (.ireturn, 1) := by decide +kernel
theorem dX3_askCall_103 : decode cX3_askCall 103 = .ok (.bipush (-2), 2) := by decide +kernel
theorem dX3_askCall_105 : decode cX3_askCall 105 = .ok (.ireturn, 1) := by decide +kernel
theorem dX3_askCount_0 : decode cX3_askCount 0 = .ok (.iload_n 1, 1) := by decide +kernel
theorem dX3_askCount_1 : decode cX3_askCount 1 = .ok (.tableswitch 78 0 6 #[43, 48, 53, 58, 63, 68, 73], 43) := by decide +kernel
theorem dX3_askCount_44 : decode cX3_askCount 44 = .ok (.aload_n 0, 1) := by decide +kernel
theorem dX3_askCount_45 : decode cX3_askCount 45 = .ok (.getfield 31, 3) := by decide +kernel
theorem dX3_askCount_48 : decode cX3_askCount 48 = .ok (.ireturn, 1) := by decide +kernel
theorem dX3_askCount_49 : decode cX3_askCount 49 = .ok (.aload_n 0, 1) := by decide +kernel
theorem dX3_askCount_50 : decode cX3_askCount 50 = .ok (.getfield 41, 3) := by decide +kernel
theorem dX3_askCount_53 : decode cX3_askCount 53 = .ok (.ireturn, 1) := by decide +kernel
theorem dX3_askCount_54 : decode cX3_askCount 54 = .ok (.aload_n 0, 1) := by decide +kernel
theorem dX3_askCount_55 : decode cX3_askCount 55 = .ok (.invokevirtual 107, 3) := by decide +kernel
theorem dX3_askCount_58 : decode cX3_askCount 58 = .ok (.ireturn, 1) := by decide +kernel
theorem dX3_askCount_59 : decode cX3_askCount 59 = .ok (.aload_n 0, 1) := by decide +kernel
theorem dX3_askCount_60 : decode cX3_askCount 60 = .ok (.invokevirtual 128, 3) := by decide +kernel
theorem dX3_askCount_63 : decode cX3_askCount 63 = .ok (.ireturn, 1) := by decide +kernel
theorem dX3_askCount_64 : decode cX3_askCount 64 = .ok (.aload_n 0, 1) := by decide +kernel
theorem dX3_askCount_65 : decode cX3_askCount 65 = .ok (.invokevirtual 131, 3) := by decide +kernel
theorem dX3_askCount_68 : decode cX3_askCount 68 = .ok (.ireturn, 1) := by decide +kernel
theorem dX3_askCount_69 : decode cX3_askCount 69 = .ok (.aload_n 0, 1) := by decide +kernel
theorem dX3_askCount_70 : decode cX3_askCount 70 = .ok (.getfield 48, 3) := by decide +kernel
theorem dX3_askCount_73 : decode cX3_askCount 73 = .ok (.ireturn, 1) := by decide +kernel
theorem dX3_askCount_74 : decode cX3_askCount 74 = .ok (.aload_n 0, 1) := by decide +kernel
theorem dX3_askCount_75 : decode cX3_askCount 75 = .ok (.getfield 51, 3) := by decide +kernel
theorem dX3_askCount_78 : decode cX3_askCount 78 = .ok (.ireturn, 1) := by decide +kernel
theorem dX3_askCount_79 : decode cX3_askCount 79 = .ok (.bipush (-2), 2) := by decide +kernel
theorem dX3_askCount_81 : decode cX3_askCount 81 = .ok (.ireturn, 1) := by decide +kernel
theorem dX3_whoIsOn_0 : decode cX3_whoIsOn 0 = .ok (.iconst 0, 1) := by decide +kernel
theorem dX3_whoIsOn_1 : decode cX3_whoIsOn 1 = .ok (.istore_n 2, 1) := by decide +kernel
theorem dX3_whoIsOn_2 : decode cX3_whoIsOn 2 = .ok (.iload_n 2, 1) := by decide +kernel
theorem dX3_whoIsOn_3 : decode cX3_whoIsOn 3 = .ok (.aload_n 0, 1) := by decide +kernel
theorem dX3_whoIsOn_4 : decode cX3_whoIsOn 4 = .ok (.getfield 31, 3) := by decide +kernel
theorem dX3_whoIsOn_7 : decode cX3_whoIsOn 7 = .ok (.if_icmp .ge 23, 3) := by decide +kernel
end
section
theorem dX3_whoIsOn_10 : decode cX3_whoIsOn 10 = .ok (.aload_n 0, 1) := by decide +kernel
theorem dX3_whoIsOn_11 : decode cX3_whoIsOn 11 = .ok (.getfield 9, 3) := by decide +kernel
theorem dX3_whoIsOn_14 : decode cX3_whoIsOn 14 = .ok (.iload_n 2, 1) := by decide +kernel
theorem dX3_whoIsOn_15 : decode cX3_whoIsOn 15 = .ok (.iaload, 1) := by decide +kernel
theorem dX3_whoIsOn_16 : decode cX3_whoIsOn 16 = .ok (.iconst 4, 1) := by decide +kernel
theorem dX3_whoIsOn_17 : decode cX3_whoIsOn 17 = .ok (.idiv, 1) := by decide +kernel
theorem dX3_whoIsOn_18 : decode cX3_whoIsOn 18 = .ok (.iload_n 1, 1) := by decide +kernel
theorem dX3_whoIsOn_19 : decode cX3_whoIsOn 19 = .ok (.if_icmp .ne 5, 3) := by decide +kernel
theorem dX3_whoIsOn_22 : decode cX3_whoIsOn 22 = .ok (.iload_n 2, 1) := by decide +kernel
theorem dX3_whoIsOn_23 : decode cX3_whoIsOn 23 = .ok (.ireturn, 1) := by decide +kernel
theorem dX3_whoIsOn_24 : decode cX3_whoIsOn 24 = .ok (.iinc 2 1, 3) := by decide +kernel
theorem dX3_whoIsOn_27 : decode cX3_whoIsOn 27 = .ok (.goto (-25), 3) := by decide +kernel
theorem dX3_whoIsOn_30 : decode cX3_whoIsOn 30 = .ok (.iconst (-1), 1) := by decide +kernel
theorem dX3_whoIsOn_31 : decode cX3_whoIsOn 31 = .ok (.ireturn, 1) := by decide +kernel
theorem dX3_isHome_0 : decode cX3_isHome 0 = .ok (.iconst 0, 1) := by decide +kernel
theorem dX3_isHome_1 : decode cX3_isHome 1 = .ok (.istore_n 2, 1) := by decide +kernel
theorem dX3_isHome_2 : decode cX3_isHome 2 = .ok (.iload_n 2, 1) := by decide +kernel
theorem dX3_isHome_3 : decode cX3_isHome 3 = .ok (.aload_n 0, 1) := by decide +kernel
theorem dX3_isHome_4 : decode cX3_isHome 4 = .ok (.getfield 31, 3) := by decide +kernel
theorem dX3_isHome_7 : decode cX3_isHome 7 = .ok (.if_icmp .ge 23, 3) := by decide +kernel
theorem dX3_isHome_10 : decode cX3_isHome 10 = .ok (.aload_n 0, 1) := by decide +kernel
theorem dX3_isHome_11 : decode cX3_isHome 11 = .ok (.getfield 15, 3) := by decide +kernel
theorem dX3_isHome_14 : decode cX3_isHome 14 = .ok (.iload_n 2, 1) := by decide +kernel
theorem dX3_isHome_15 : decode cX3_isHome 15 = .ok (.iaload, 1) := by decide +kernel
theorem dX3_isHome_16 : decode cX3_isHome 16 = .ok (.iconst 4, 1) := by decide +kernel
theorem dX3_isHome_17 : decode cX3_isHome 17 = .ok (.idiv, 1) := by decide +kernel
theorem dX3_isHome_18 : decode cX3_isHome 18 = .ok (.iload_n 1, 1) := by decide +kernel
theorem dX3_isHome_19 : decode cX3_isHome 19 = .ok (.if_icmp .ne 5, 3) := by decide +kernel
theorem dX3_isHome_22 : decode cX3_isHome 22 = .ok (.iconst 1, 1) := by decide +kernel
theorem dX3_isHome_23 : decode cX3_isHome 23 = .ok (.ireturn, 1) := by decide +kernel
theorem dX3_isHome_24 : decode cX3_isHome 24 = .ok (.iinc 2 1, 3) := by decide +kernel
theorem dX3_isHome_27 : decode cX3_isHome 27 = .ok (.goto (-25), 3) := by decide +kernel
theorem dX3_isHome_30 : decode cX3_isHome 30 = .ok (.iconst 0, 1) := by decide +kernel
theorem dX3_isHome_31 : decode cX3_isHome 31 = .ok (.ireturn, 1) := by decide +kernel
theorem dX3_isSpotOfCall_0 : decode cX3_isSpotOfCall 0 = .ok (.iload_n 1, 1) := by decide +kernel
theorem dX3_isSpotOfCall_1 : decode cX3_isSpotOfCall 1 = .ok (.aload_n 0, 1) := by decide +kernel
theorem dX3_isSpotOfCall_2 : decode cX3_isSpotOfCall 2 = .ok (.getfield 41, 3) := by decide +kernel
theorem dX3_isSpotOfCall_5 : decode cX3_isSpotOfCall 5 = .ok (.invokestatic 54, 3) := by decide +kernel
theorem dX3_isSpotOfCall_8 : decode cX3_isSpotOfCall 8 = .ok (.ifCond .eq 16, 3) := by decide +kernel
theorem dX3_isSpotOfCall_11 : decode cX3_isSpotOfCall 11 = .ok (.iload_n 2, 1) := by decide +kernel
theorem dX3_isSpotOfCall_12 : decode cX3_isSpotOfCall 12 = .ok (.bipush 12, 2) := by decide +kernel
theorem dX3_isSpotOfCall_14 : decode cX3_isSpotOfCall 14 = .ok (.invokestatic 54, 3) := by decide +kernel
theorem dX3_isSpotOfCall_17 : decode cX3_isSpotOfCall 17 = .ok (.ifCond .eq 7, 3) := by decide +kernel
theorem dX3_isSpotOfCall_20 : decode cX3_isSpotOfCall 20 = .ok (.iconst 1, 1) := by decide +kernel
theorem dX3_isSpotOfCall_21 : decode cX3_isSpotOfCall 21 = .ok (.goto 4, 3) := by decide +kernel
theorem dX3_isSpotOfCall_24 : decode cX3_isSpotOfCall 24 = .ok (.iconst 0, 1) := by decide +kernel
theorem dX3_isSpotOfCall_25 : decode cX3_isSpotOfCall 25 = .ok (.ireturn, 1) := by decide +kernel
theorem dX3_move_0 : decode cX3_move 0 = .ok (.iconst 0, 1) := by decide +kernel
theorem dX3_move_1 : decode cX3_move 1 = .ok (.istore_n 3, 1) := by decide +kernel
theorem dX3_move_2 : decode cX3_move 2 = .ok (.iconst 0, 1) := by decide +kernel
theorem dX3_move_3 : decode cX3_move 3 = .ok (.istore 4, 2) := by decide +kernel
theorem dX3_move_5 : decode cX3_move 5 = .ok (.iload 4, 2) := by decide +kernel
theorem dX3_move_7 : decode cX3_move 7 = .ok (.aload_n 0, 1) := by decide +kernel
theorem dX3_move_8 : decode cX3_move 8 = .ok (.getfield 31, 3) := by decide +kernel
theorem dX3_move_11 : decode cX3_move 11 = .ok (.if_icmp .ge 42, 3) := by decide +kernel
theorem dX3_move_14 : decode cX3_move 14 = .ok (.aload_n 2, 1) := by decide +kernel
theorem dX3_move_15 : decode cX3_move 15 = .ok (.aload_n 1, 1) := by decide +kernel
theorem dX3_move_16 : decode cX3_move 16 = .ok (.iload 4, 2) := by decide +kernel
theorem dX3_move_18 : decode cX3_move 18 = .ok (.iaload, 1) := by decide +kernel
theorem dX3_move_19 : decode cX3_move 19 = .ok (.invokevirtual 134, 3) := by decide +kernel
theorem dX3_move_22 : decode cX3_move 22 = .ok (.istore 5, 2) := by decide +kernel
theorem dX3_move_24 : decode cX3_move 24 = .ok (.iload_n 3, 1) := by decide +kernel
theorem dX3_move_25 : decode cX3_move 25 = .ok (.iload 5, 2) := by decide +kernel
theorem dX3_move_27 : decode cX3_move 27 = .ok (.aload_n 1, 1) := by decide +kernel
theorem dX3_move_28 : decode cX3_move 28 = .ok (.iload 4, 2) := by decide +kernel
theorem dX3_move_30 : decode cX3_move 30 = .ok (.iaload, 1) := by decide +kernel
theorem dX3_move_31 : decode cX3_move 31 = .ok (.if_icmp .eq 7, 3) := by decide +kernel
theorem dX3_move_34 : decode cX3_move 34 = .ok (.iconst 1, 1) := by decide +kernel
theorem dX3_move_35 : decode cX3_move 35 = .ok (.goto 4, 3) := by decide +kernel
theorem dX3_move_38 : decode cX3_move 38 = .ok (.iconst 0, 1) := by decide +kernel
theorem dX3_move_39 : decode cX3_move 39 = .ok (.iadd, 1) := by decide +kernel
theorem dX3_move_40 : decode cX3_move 40 = .ok (.istore_n 3, 1) := by decide +kernel
theorem dX3_move_41 : decode cX3_move 41 = .ok (.aload_n 1, 1) := by decide +kernel
theorem dX3_move_42 : decode cX3_move 42 = .ok (.iload 4, 2) := by decide +kernel
theorem dX3_move_44 : decode cX3_move 44 = .ok (.iload 5, 2) := by decide +kernel
theorem dX3_move_46 : decode cX3_move 46 = .ok (.iastore, 1) := by decide +kernel
theorem dX3_move_47 : decode cX3_move 47 = .ok (.iinc 4 1, 3) := by decide +kernel
theorem dX3_move_50 : decode cX3_move 50 = .ok (.goto (-45), 3) := by decide +kernel
theorem dX3_move_53 : decode cX3_move 53 = .ok (.iload_n 3, 1) := by decide +kernel
theorem dX3_move_54 : decode cX3_move 54 = .ok (.ireturn, 1) := by decide +kernel
theorem dX3_partnerOf_0 : decode cX3_partnerOf 0 = .ok (.iload_n 1, 1) := by decide +kernel
theorem dX3_partnerOf_1 : decode cX3_partnerOf 1 = .ok (.iconst 1, 1) := by decide +kernel
theorem dX3_partnerOf_2 : decode cX3_partnerOf 2 = .ok (.ixor, 1) := by decide +kernel
theorem dX3_partnerOf_3 : decode cX3_partnerOf 3 = .ok (.istore_n 2, 1) := by decide +kernel
theorem dX3_partnerOf_4 : decode cX3_partnerOf 4 = .ok (.iload_n 2, 1) := by decide +kernel
theorem dX3_partnerOf_5 : decode cX3_partnerOf 5 = .ok (.aload_n 0, 1) := by decide +kernel
theorem dX3_partnerOf_6 : decode cX3_partnerOf 6 = .ok (.getfield 31, 3) := by decide +kernel
theorem dX3_partnerOf_9 : decode cX3_partnerOf 9 = .ok (.if_icmp .ge 7, 3) := by decide +kernel
theorem dX3_partnerOf_12 : decode cX3_partnerOf 12 = .ok (.iload_n 2, 1) := by decide +kernel
theorem dX3_partnerOf_13 : decode cX3_partnerOf 13 = .ok (.goto 4, 3) := by decide +kernel
theorem dX3_partnerOf_16 : decode cX3_partnerOf 16 = .ok (.iconst (-1), 1) := by decide +kernel
theorem dX3_partnerOf_17 : decode cX3_partnerOf 17 = .ok (.ireturn, 1) := by decide +kernel
theorem dX3_isPaired_0 : decode cX3_isPaired 0 = .ok (.aload_n 0, 1) := by decide +kernel
theorem dX3_isPaired_1 : decode cX3_isPaired 1 = .ok (.iload_n 1, 1) := by decide +kernel
theorem dX3_isPaired_2 : decode cX3_isPaired 2 = .ok (.invokevirtual 113, 3) := by decide +kernel
theorem dX3_isPaired_5 : decode cX3_isPaired 5 = .ok (.istore_n 2, 1) := by decide +kernel
theorem dX3_isPaired_6 : decode cX3_isPaired 6 = .ok (.iload_n 2, 1) := by decide +kernel
theorem dX3_isPaired_7 : decode cX3_isPaired 7 = .ok (.iconst (-1), 1) := by decide +kernel
theorem dX3_isPaired_8 : decode cX3_isPaired 8 = .ok (.if_icmp .eq 25, 3) := by decide +kernel
theorem dX3_isPaired_11 : decode cX3_isPaired 11 = .ok (.aload_n 0, 1) := by decide +kernel
theorem dX3_isPaired_12 : decode cX3_isPaired 12 = .ok (.getfield 9, 3) := by decide +kernel
theorem dX3_isPaired_15 : decode cX3_isPaired 15 = .ok (.iload_n 1, 1) := by decide +kernel
theorem dX3_isPaired_16 : decode cX3_isPaired 16 = .ok (.iaload, 1) := by decide +kernel
theorem dX3_isPaired_17 : decode cX3_isPaired 17 = .ok (.aload_n 0, 1) := by decide +kernel
theorem dX3_isPaired_18 : decode cX3_isPaired 18 = .ok (.getfield 9, 3) := by decide +kernel
theorem dX3_isPaired_21 : decode cX3_isPaired 21 = .ok (.iload_n 2, 1) := by decide +kernel
theorem dX3_isPaired_22 : decode cX3_isPaired 22 = .ok (.iaload, 1) := by decide +kernel
theorem dX3_isPaired_23 : decode cX3_isPaired 23 = .ok (.invokestatic 137, 3) := by decide +kernel
theorem dX3_isPaired_26 : decode cX3_isPaired 26 = .ok (.ifCond .eq 7, 3) := by decide +kernel
theorem dX3_isPaired_29 : decode cX3_isPaired 29 = .ok (.iconst 1, 1) := by decide +kernel
theorem dX3_isPaired_30 : decode cX3_isPaired 30 = .ok (.goto 4, 3) := by decide +kernel
theorem dX3_isPaired_33 : decode cX3_isPaired 33 = .ok (.iconst 0, 1) := by decide +kernel
theorem dX3_isPaired_34 : decode cX3_isPaired 34 = .ok (.ireturn, 1) := by decide +kernel
theorem dX3_howManyAreHome_0 : decode cX3_howManyAreHome 0 = .ok (.iconst 0, 1) := by decide +kernel
theorem dX3_howManyAreHome_1 : decode cX3_howManyAreHome 1 = .ok (.istore_n 1, 1) := by decide +kernel
theorem dX3_howManyAreHome_2 : decode cX3_howManyAreHome 2 = .ok (.iconst 0, 1) := by decide +kernel
theorem dX3_howManyAreHome_3 : decode cX3_howManyAreHome 3 = .ok (.istore_n 2, 1) := by decide +kernel
theorem dX3_howManyAreHome_4 : decode cX3_howManyAreHome 4 = .ok (.iload_n 2, 1) := by decide +kernel
theorem dX3_howManyAreHome_5 : decode cX3_howManyAreHome 5 = .ok (.aload_n 0, 1) := by decide +kernel
theorem dX3_howManyAreHome_6 : decode cX3_howManyAreHome 6 = .ok (.getfield 31, 3) := by decide +kernel
theorem dX3_howManyAreHome_9 : decode cX3_howManyAreHome 9 = .ok (.if_icmp .ge 32, 3) := by decide +kernel
theorem dX3_howManyAreHome_12 : decode cX3_howManyAreHome 12 = .ok (.iload_n 1, 1) := by decide +kernel
theorem dX3_howManyAreHome_13 : decode cX3_howManyAreHome 13 = .ok (.aload_n 0, 1) := by decide +kernel
theorem dX3_howManyAreHome_14 : decode cX3_howManyAreHome 14 = .ok (.getfield 9, 3) := by decide +kernel
theorem dX3_howManyAreHome_17 : decode cX3_howManyAreHome 17 = .ok (.iload_n 2, 1) := by decide +kernel
theorem dX3_howManyAreHome_18 : decode cX3_howManyAreHome 18 = .ok (.iaload, 1) := by decide +kernel
theorem dX3_howManyAreHome_19 : decode cX3_howManyAreHome 19 = .ok (.aload_n 0, 1) := by decide +kernel
theorem dX3_howManyAreHome_20 : decode cX3_howManyAreHome 20 = .ok (.getfield 15, 3) := by decide +kernel
theorem dX3_howManyAreHome_23 : decode cX3_howManyAreHome 23 = .ok (.iload_n 2, 1) := by decide +kernel
theorem dX3_howManyAreHome_24 : decode cX3_howManyAreHome 24 = .ok (.iaload, 1) := by decide +kernel
theorem dX3_howManyAreHome_25 : decode cX3_howManyAreHome 25 = .ok (.if_icmp .ne 7, 3) := by decide +kernel
theorem dX3_howManyAreHome_28 : decode cX3_howManyAreHome 28 = .ok (.iconst 1, 1) := by decide +kernel
theorem dX3_howManyAreHome_29 : decode cX3_howManyAreHome 29 = .ok (.goto 4, 3) := by decide +kernel
theorem dX3_howManyAreHome_32 : decode cX3_howManyAreHome 32 = .ok (.iconst 0, 1) := by decide +kernel
theorem dX3_howManyAreHome_33 : decode cX3_howManyAreHome 33 = .ok (.iadd, 1) := by decide +kernel
theorem dX3_howManyAreHome_34 : decode cX3_howManyAreHome 34 = .ok (.istore_n 1, 1) := by decide +kernel
theorem dX3_howManyAreHome_35 : decode cX3_howManyAreHome 35 = .ok (.iinc 2 1, 3) := by decide +kernel
theorem dX3_howManyAreHome_38 : decode cX3_howManyAreHome 38 = .ok (.goto (-34), 3) := by decide +kernel
theorem dX3_howManyAreHome_41 : decode cX3_howManyAreHome 41 = .ok (.iload_n 1, 1) := by decide +kernel
theorem dX3_howManyAreHome_42 : decode cX3_howManyAreHome 42 = .ok (.ireturn, 1) := by decide +kernel
theorem dX3_howManyPartnersArePaired_0 : decode cX3_howManyPartnersArePaired 0 = .ok (.iconst 0, 1) := by decide +kernel
theorem dX3_howManyPartnersArePaired_1 : decode cX3_howManyPartnersArePaired 1 = .ok (.istore_n 1, 1) := by decide +kernel
theorem dX3_howManyPartnersArePaired_2 : decode cX3_howManyPartnersArePaired 2 = .ok (.iconst 0, 1) := by decide +kernel
theorem dX3_howManyPartnersArePaired_3 : decode cX3_howManyPartnersArePaired 3 = .ok (.istore_n 2, 1) := by decide +kernel
theorem dX3_howManyPartnersArePaired_4 : decode cX3_howManyPartnersArePaired 4 = .ok (.iload_n 2, 1) := by decide +kernel
theorem dX3_howManyPartnersArePaired_5 : decode cX3_howManyPartnersArePaired 5 = .ok (.aload_n 0, 1) := by decide +kernel
theorem dX3_howManyPartnersArePaired_6 : decode cX3_howManyPartnersArePaired 6 = .ok (.getfield 31, 3) := by decide +kernel
theorem dX3_howManyPartnersArePaired_9 : decode cX3_howManyPartnersArePaired 9 = .ok (.if_icmp .ge 25, 3) := by decide +kernel
theorem dX3_howManyPartnersArePaired_12 : decode cX3_howManyPartnersArePaired 12 = .ok (.iload_n 1, 1) := by decide +kernel
theorem dX3_howManyPartnersArePaired_13 : decode cX3_howManyPartnersArePaired 13 = .ok (.aload_n 0, 1) := by decide +kernel
theorem dX3_howManyPartnersArePaired_14 : decode cX3_howManyPartnersArePaired 14 = .ok (.iload_n 2, 1) := by decide +kernel
theorem dX3_howManyPartnersArePaired_15 : decode cX3_howManyPartnersArePaired 15 = .ok (.invokevirtual 116, 3) := by decide +kernel
theorem dX3_howManyPartnersArePaired_18 : decode cX3_howManyPartnersArePaired 18 = .ok (.ifCond .eq 7, 3) := by decide +kernel
theorem dX3_howManyPartnersArePaired_21 : decode cX3_howManyPartnersArePaired 21 = .ok (.iconst 1, 1) := by decide +kernel
theorem dX3_howManyPartnersArePaired_22 : decode cX3_howManyPartnersArePaired 22 = .ok (.goto 4, 3) := by decide +kernel
theorem dX3_howManyPartnersArePaired_25 : decode cX3_howManyPartnersArePaired 25 = .ok (.iconst 0, 1) := by decide +kernel
theorem dX3_howManyPartnersArePaired_26 : decode cX3_howManyPartnersArePaired 26 = .ok (.iadd, 1) := by decide +kernel
theorem dX3_howManyPartnersArePaired_27 : decode cX3_howManyPartnersArePaired 27 = .ok (.istore_n 1, 1) := by decide +kernel
theorem dX3_howManyPartnersArePaired_28 : decode cX3_howManyPartnersArePaired 28 = .ok (.iinc 2 2, 3) := by decide +kernel
theorem dX3_howManyPartnersArePaired_31 : decode cX3_howManyPartnersArePaired 31 = .ok (.goto (-27), 3) := by decide +kernel
theorem dX3_howManyPartnersArePaired_34 : decode cX3_howManyPartnersArePaired 34 = .ok (.iload_n 1, 1) := by decide +kernel
theorem dX3_howManyPartnersArePaired_35 : decode cX3_howManyPartnersArePaired 35 = .ok (.ireturn, 1) := by decide +kernel
theorem dX3_callsThatFit_0 : decode cX3_callsThatFit 0 = .ok (.aload_n 0, 1) := by decide +kernel
theorem dX3_callsThatFit_1 : decode cX3_callsThatFit 1 = .ok (.getfield 9, 3) := by decide +kernel
theorem dX3_callsThatFit_4 : decode cX3_callsThatFit 4 = .ok (.aload_n 0, 1) := by decide +kernel
theorem dX3_callsThatFit_5 : decode cX3_callsThatFit 5 = .ok (.getfield 31, 3) := by decide +kernel
theorem dX3_callsThatFit_8 : decode cX3_callsThatFit 8 = .ok (.invokestatic 96, 3) := by decide +kernel
theorem dX3_callsThatFit_11 : decode cX3_callsThatFit 11 = .ok (.istore_n 1, 1) := by decide +kernel
theorem dX3_callsThatFit_12 : decode cX3_callsThatFit 12 = .ok (.iconst 0, 1) := by decide +kernel
theorem dX3_callsThatFit_13 : decode cX3_callsThatFit 13 = .ok (.istore_n 2, 1) := by decide +kernel
theorem dX3_callsThatFit_14 : decode cX3_callsThatFit 14 = .ok (.iconst 0, 1) := by decide +kernel
theorem dX3_callsThatFit_15 : decode cX3_callsThatFit 15 = .ok (.istore_n 3, 1) := by decide +kernel
theorem dX3_callsThatFit_16 : decode cX3_callsThatFit 16 = .ok (.iload_n 3, 1) := by decide +kernel
theorem dX3_callsThatFit_17 : decode cX3_callsThatFit 17 = .ok (.aload_n 0, 1) := by decide +kernel
theorem dX3_callsThatFit_18 : decode cX3_callsThatFit 18 = .ok (.getfield 41, 3) := by decide +kernel
theorem dX3_callsThatFit_21 : decode cX3_callsThatFit 21 = .ok (.if_icmp .ge 28, 3) := by decide +kernel
theorem dX3_callsThatFit_24 : decode cX3_callsThatFit 24 = .ok (.aload_n 0, 1) := by decide +kernel
theorem dX3_callsThatFit_25 : decode cX3_callsThatFit 25 = .ok (.getfield 20, 3) := by decide +kernel
theorem dX3_callsThatFit_28 : decode cX3_callsThatFit 28 = .ok (.iload_n 3, 1) := by decide +kernel
theorem dX3_callsThatFit_29 : decode cX3_callsThatFit 29 = .ok (.aaload, 1) := by decide +kernel
theorem dX3_callsThatFit_30 : decode cX3_callsThatFit 30 = .ok (.iload_n 1, 1) := by decide +kernel
theorem dX3_callsThatFit_31 : decode cX3_callsThatFit 31 = .ok (.invokevirtual 100, 3) := by decide +kernel
theorem dX3_callsThatFit_34 : decode cX3_callsThatFit 34 = .ok (.ifCond .eq 9, 3) := by decide +kernel
theorem dX3_callsThatFit_37 : decode cX3_callsThatFit 37 = .ok (.iload_n 2, 1) := by decide +kernel
theorem dX3_callsThatFit_38 : decode cX3_callsThatFit 38 = .ok (.iconst 1, 1) := by decide +kernel
theorem dX3_callsThatFit_39 : decode cX3_callsThatFit 39 = .ok (.iload_n 3, 1) := by decide +kernel
theorem dX3_callsThatFit_40 : decode cX3_callsThatFit 40 = .ok (.ishl, 1) := by decide +kernel
theorem dX3_callsThatFit_41 : decode cX3_callsThatFit 41 = .ok (.ior, 1) := by decide +kernel
theorem dX3_callsThatFit_42 : decode cX3_callsThatFit 42 = .ok (.istore_n 2, 1) := by decide +kernel
theorem dX3_callsThatFit_43 : decode cX3_callsThatFit 43 = .ok (.iinc 3 1, 3) := by decide +kernel
theorem dX3_callsThatFit_46 : decode cX3_callsThatFit 46 = .ok (.goto (-30), 3) := by decide +kernel
theorem dX3_callsThatFit_49 : decode cX3_callsThatFit 49 = .ok (.iload_n 2, 1) := by decide +kernel
theorem dX3_callsThatFit_50 : decode cX3_callsThatFit 50 = .ok (.ireturn, 1) := by decide +kernel
theorem dX4_init_0 : decode cX4_init 0 = .ok (.aload_n 0, 1) := by decide +kernel
theorem dX4_init_1 : decode cX4_init 1 = .ok (.invokespecial 3, 3) := by decide +kernel
theorem dX4_init_4 : decode cX4_init 4 = .ok (.aload_n 0, 1) := by decide +kernel
theorem dX4_init_5 : decode cX4_init 5 = .ok (.bipush 120, 2) := by decide +kernel
theorem dX4_init_7 : decode cX4_init 7 = .ok (.newarray .int, 2) := by decide +kernel
theorem dX4_init_9 : decode cX4_init 9 = .ok (.putfield 9, 3) := by decide +kernel
theorem dX4_init_12 : decode cX4_init 12 = .ok (.aload_n 0, 1) := by decide +kernel
theorem dX4_init_13 : decode cX4_init 13 = .ok (.iconst 3, 1) := by decide +kernel
theorem dX4_init_14 : decode cX4_init 14 = .ok (.newarray .int, 2) := by decide +kernel
theorem dX4_init_16 : decode cX4_init 16 = .ok (.putfield 15, 3) := by decide +kernel
theorem dX4_init_19 : decode cX4_init 19 = .ok (.aload_n 0, 1) := by decide +kernel
theorem dX4_init_20 : decode cX4_init 20 = .ok (.bipush 12, 2) := by decide +kernel
theorem dX4_init_22 : decode cX4_init 22 = .ok (.newarray .int, 2) := by decide +kernel
theorem dX4_init_24 : decode cX4_init 24 = .ok (.putfield 18, 3) := by decide +kernel
theorem dX4_init_27 : decode cX4_init 27 = .ok (.return_, 1) := by decide +kernel
theorem dX4_append_0 : decode cX4_append 0 = .ok (.iload_n 1, 1) := by decide +kernel
theorem dX4_append_1 : decode cX4_append 1 = .ok (.sipush 128, 3) := by decide +kernel
theorem dX4_append_4 : decode cX4_append 4 = .ok (.invokestatic 21, 3) := by decide +kernel
theorem dX4_append_7 : decode cX4_append 7 = .ok (.ifCond .ne 6, 3) := by decide +kernel
theorem dX4_append_10 : decode cX4_append 10 = .ok (.bipush (-2), 2) := by decide +kernel
theorem dX4_append_12 : decode cX4_append 12 = .ok (.ireturn, 1) := by decide +kernel
theorem dX4_append_13 : decode cX4_append 13 = .ok (.aload_n 0, 1) := by decide +kernel
theorem dX4_append_14 : decode cX4_append 14 = .ok (.getfield 25, 3) := by decide +kernel
theorem dX4_append_17 : decode cX4_append 17 = .ok (.bipush 120, 2) := by decide +kernel
theorem dX4_append_19 : decode cX4_append 19 = .ok (.if_icmp .lt 6, 3) := by decide +kernel
theorem dX4_append_22 : decode cX4_append 22 = .ok (.bipush (-4), 2) := by decide +kernel
theorem dX4_append_24 : decode cX4_append 24 = .ok (.ireturn, 1) := by decide +kernel
theorem dX4_append_25 : decode cX4_append 25 = .ok (.aload_n 0, 1) := by decide +kernel
theorem dX4_append_26 : decode cX4_append 26 = .ok (.getfield 9, 3) := by decide +kernel
theorem dX4_append_29 : decode cX4_append 29 = .ok (.aload_n 0, 1) := by decide +kernel
theorem dX4_append_30 : decode cX4_append 30 = .ok (.getfield 25, 3) := by decide +kernel
theorem dX4_append_33 : decode cX4_append 33 = .ok (.iload_n 1, 1) := by decide +kernel
theorem dX4_append_34 : decode cX4_append 34 = .ok (.iastore, 1) := by decide +kernel
theorem dX4_append_35 : decode cX4_append 35 = .ok (.aload_n 0, 1) := by decide +kernel
theorem dX4_append_36 : decode cX4_append 36 = .ok (.dup, 1) := by decide +kernel
theorem dX4_append_37 : decode cX4_append 37 = .ok (.getfield 25, 3) := by decide +kernel
theorem dX4_append_40 : decode cX4_append 40 = .ok (.iconst 1, 1) := by decide +kernel
theorem dX4_append_41 : decode cX4_append 41 = .ok (.iadd, 1) := by decide +kernel
theorem dX4_append_42 : decode cX4_append 42 = .ok (.putfield 25, 3) := by decide +kernel
theorem dX4_append_45 : decode cX4_append 45 = .ok (.aload_n 0, 1) := by decide +kernel
theorem dX4_append_46 : decode cX4_append 46 = .ok (.getfield 25, 3) := by decide +kernel
theorem dX4_append_49 : decode cX4_append 49 = .ok (.ireturn, 1) := by decide +kernel
theorem dX4_empty_0 : decode cX4_empty 0 = .ok (.aload_n 0, 1) := by decide +kernel
theorem dX4_empty_1 : decode cX4_empty 1 = .ok (.getfield 25, 3) := by decide +kernel
theorem dX4_empty_4 : decode cX4_empty 4 = .ok (.istore_n 1, 1) := by decide +kernel
theorem dX4_empty_5 : decode cX4_empty 5 = .ok (.aload_n 0, 1) := by decide +kernel
theorem dX4_empty_6 : decode cX4_empty 6 = .ok (.iconst 0, 1) := by decide +kernel
theorem dX4_empty_7 : decode cX4_empty 7 = .ok (.putfield 25, 3) := by decide +kernel
theorem dX4_empty_10 : decode cX4_empty 10 = .ok (.iload_n 1, 1) := by decide +kernel
theorem dX4_empty_11 : decode cX4_empty 11 = .ok (.ireturn, 1) := by decide +kernel
theorem dX4_restart_0 : decode cX4_restart 0 = .ok (.aload_n 0, 1) := by decide +kernel
theorem dX4_restart_1 : decode cX4_restart 1 = .ok (.iconst 0, 1) := by decide +kernel
theorem dX4_restart_2 : decode cX4_restart 2 = .ok (.putfield 29, 3) := by decide +kernel
theorem dX4_restart_5 : decode cX4_restart 5 = .ok (.aload_n 0, 1) := by decide +kernel
theorem dX4_restart_6 : decode cX4_restart 6 = .ok (.iconst (-1), 1) := by decide +kernel
theorem dX4_restart_7 : decode cX4_restart 7 = .ok (.putfield 32, 3) := by decide +kernel
theorem dX4_restart_10 : decode cX4_restart 10 = .ok (.return_, 1) := by decide +kernel
theorem dX4_hasMore_0 : decode cX4_hasMore 0 = .ok (.aload_n 0, 1) := by decide +kernel
theorem dX4_hasMore_1 : decode cX4_hasMore 1 = .ok (.invokevirtual 35, 3) := by decide +kernel
theorem dX4_hasMore_4 : decode cX4_hasMore 4 = .ok (.iconst (-1), 1) := by decide +kernel
theorem dX4_hasMore_5 : decode cX4_hasMore 5 = .ok (.if_icmp .eq 7, 3) := by decide +kernel
theorem dX4_hasMore_8 : decode cX4_hasMore 8 = .ok (.iconst 1, 1) := by decide +kernel
theorem dX4_hasMore_9 : decode cX4_hasMore 9 = .ok (.goto 4, 3) := by decide +kernel
theorem dX4_hasMore_12 : decode cX4_hasMore 12 = .ok (.iconst 0, 1) := by decide +kernel
theorem dX4_hasMore_13 : decode cX4_hasMore 13 = .ok (.ireturn, 1) := by decide +kernel
theorem dX4_firstFault_0 : decode cX4_firstFault 0 = .ok (.aload_n 0, 1) := by decide +kernel
theorem dX4_firstFault_1 : decode cX4_firstFault 1 = .ok (.invokevirtual 39, 3) := by decide +kernel
theorem dX4_firstFault_4 : decode cX4_firstFault 4 = .ok (.aload_n 0, 1) := by decide +kernel
theorem dX4_firstFault_5 : decode cX4_firstFault 5 = .ok (.invokevirtual 42, 3) := by decide +kernel
theorem dX4_firstFault_8 : decode cX4_firstFault 8 = .ok (.istore_n 1, 1) := by decide +kernel
theorem dX4_firstFault_9 : decode cX4_firstFault 9 = .ok (.iconst 1, 1) := by decide +kernel
theorem dX4_firstFault_10 : decode cX4_firstFault 10 = .ok (.istore_n 2, 1) := by decide +kernel
theorem dX4_firstFault_11 : decode cX4_firstFault 11 = .ok (.iload_n 2, 1) := by decide +kernel
theorem dX4_firstFault_12 : decode cX4_firstFault 12 = .ok (.bipush 120, 2) := by decide +kernel
theorem dX4_firstFault_14 : decode cX4_firstFault 14 = .ok (.if_icmp .ge 25, 3) := by decide +kernel
theorem dX4_firstFault_17 : decode cX4_firstFault 17 = .ok (.iload_n 1, 1) := by decide +kernel
theorem dX4_firstFault_18 : decode cX4_firstFault 18 = .ok (.ifCond .eq 21, 3) := by decide +kernel
theorem dX4_firstFault_21 : decode cX4_firstFault 21 = .ok (.aload_n 0, 1) := by decide +kernel
theorem dX4_firstFault_22 : decode cX4_firstFault 22 = .ok (.invokevirtual 46, 3) := by decide +kernel
theorem dX4_firstFault_25 : decode cX4_firstFault 25 = .ok (.ifCond .eq 14, 3) := by decide +kernel
theorem dX4_firstFault_28 : decode cX4_firstFault 28 = .ok (.aload_n 0, 1) := by decide +kernel
theorem dX4_firstFault_29 : decode cX4_firstFault 29 = .ok (.invokevirtual 42, 3) := by decide +kernel
theorem dX4_firstFault_32 : decode cX4_firstFault 32 = .ok (.istore_n 1, 1) := by decide +kernel
theorem dX4_firstFault_33 : decode cX4_firstFault 33 = .ok (.iinc 2 1, 3) := by decide +kernel
theorem dX4_firstFault_36 : decode cX4_firstFault 36 = .ok (.goto (-25), 3) := by decide +kernel
theorem dX4_firstFault_39 : decode cX4_firstFault 39 = .ok (.aload_n 0, 1) := by decide +kernel
theorem dX4_firstFault_40 : decode cX4_firstFault 40 = .ok (.getfield 32, 3) := by decide +kernel
theorem dX4_firstFault_43 : decode cX4_firstFault 43 = .ok (.ireturn, 1) := by decide +kernel
theorem dX4_readOrder_0 : decode cX4_readOrder 0 = .ok (.aload_n 0, 1) := by decide +kernel
theorem dX4_readOrder_1 : decode cX4_readOrder 1 = .ok (.aload_n 0, 1) := by decide +kernel
theorem dX4_readOrder_2 : decode cX4_readOrder 2 = .ok (.invokevirtual 35, 3) := by decide +kernel
theorem dX4_readOrder_5 : decode cX4_readOrder 5 = .ok (.putfield 49, 3) := by decide +kernel
theorem dX4_readOrder_8 : decode cX4_readOrder 8 = .ok (.aload_n 0, 1) := by decide +kernel
theorem dX4_readOrder_9 : decode cX4_readOrder 9 = .ok (.getfield 49, 3) := by decide +kernel
theorem dX4_readOrder_12 : decode cX4_readOrder 12 = .ok (.invokestatic 52, 3) := by decide +kernel
theorem dX4_readOrder_15 : decode cX4_readOrder 15 = .ok (.istore_n 1, 1) := by decide +kernel
theorem dX4_readOrder_16 : decode cX4_readOrder 16 = .ok (.iload_n 1, 1) := by decide +kernel
theorem dX4_readOrder_17 : decode cX4_readOrder 17 = .ok (.iconst (-1), 1) := by decide +kernel
theorem dX4_readOrder_18 : decode cX4_readOrder 18 = .ok (.if_icmp .ne 12, 3) := by decide +kernel
theorem dX4_readOrder_21 : decode cX4_readOrder 21 = .ok (.aload_n 0, 1) := by decide +kernel
theorem dX4_readOrder_22 : decode cX4_readOrder 22 = .ok (.aload_n 0, 1) := by decide +kernel
theorem dX4_readOrder_23 : decode cX4_readOrder 23 = .ok (.getfield 29, 3) := by decide +kernel
theorem dX4_readOrder_26 : decode cX4_readOrder 26 = .ok (.invokevirtual 56, 3) := by decide +kernel
theorem dX4_readOrder_29 : decode cX4_readOrder 29 = .ok (.ireturn, 1) := by decide +kernel
theorem dX4_readOrder_30 : decode cX4_readOrder 30 = .ok (.aload_n 0, 1) := by decide +kernel
theorem dX4_readOrder_31 : decode cX4_readOrder 31 = .ok (.dup, 1) := by decide +kernel
theorem dX4_readOrder_32 : decode cX4_readOrder 32 = .ok (.getfield 29, 3) := by decide +kernel
theorem dX4_readOrder_35 : decode cX4_readOrder 35 = .ok (.iconst 1, 1) := by decide +kernel
theorem dX4_readOrder_36 : decode cX4_readOrder 36 = .ok (.iadd, 1) := by decide +kernel
theorem dX4_readOrder_37 : decode cX4_readOrder 37 = .ok (.putfield 29, 3) := by decide +kernel
theorem dX4_readOrder_40 : decode cX4_readOrder 40 = .ok (.aload_n 0, 1) := by decide +kernel
theorem dX4_readOrder_41 : decode cX4_readOrder 41 = .ok (.getfield 49, 3) := by decide +kernel
theorem dX4_readOrder_44 : decode cX4_readOrder 44 = .ok (.bipush 107, 2) := by decide +kernel
theorem dX4_readOrder_46 : decode cX4_readOrder 46 = .ok (.if_icmp .ne 10, 3) := by decide +kernel
theorem dX4_readOrder_49 : decode cX4_readOrder 49 = .ok (.aload_n 0, 1) := by decide +kernel
theorem dX4_readOrder_50 : decode cX4_readOrder 50 = .ok (.invokevirtual 60, 3) := by decide +kernel
theorem dX4_readOrder_53 : decode cX4_readOrder 53 = .ok (.goto 8, 3) := by decide +kernel
theorem dX4_readOrder_56 : decode cX4_readOrder 56 = .ok (.aload_n 0, 1) := by decide +kernel
theorem dX4_readOrder_57 : decode cX4_readOrder 57 = .ok (.iload_n 1, 1) := by decide +kernel
theorem dX4_readOrder_58 : decode cX4_readOrder 58 = .ok (.invokevirtual 63, 3) := by decide +kernel
theorem dX4_readOrder_61 : decode cX4_readOrder 61 = .ok (.istore_n 2, 1) := by decide +kernel
theorem dX4_readOrder_62 : decode cX4_readOrder 62 = .ok (.iload_n 2, 1) := by decide +kernel
theorem dX4_readOrder_63 : decode cX4_readOrder 63 = .ok (.ifCond .ne 5, 3) := by decide +kernel
theorem dX4_readOrder_66 : decode cX4_readOrder 66 = .ok (.iconst 0, 1) := by decide +kernel
theorem dX4_readOrder_67 : decode cX4_readOrder 67 = .ok (.ireturn, 1) := by decide +kernel
theorem dX4_readOrder_68 : decode cX4_readOrder 68 = .ok (.aload_n 0, 1) := by decide +kernel
theorem dX4_readOrder_69 : decode cX4_readOrder 69 = .ok (.invokevirtual 35, 3) := by decide +kernel
theorem dX4_readOrder_72 : decode cX4_readOrder 72 = .ok (.bipush 59, 2) := by decide +kernel
theorem dX4_readOrder_74 : decode cX4_readOrder 74 = .ok (.if_icmp .eq 12, 3) := by decide +kernel
theorem dX4_readOrder_77 : decode cX4_readOrder 77 = .ok (.aload_n 0, 1) := by decide +kernel
theorem dX4_readOrder_78 : decode cX4_readOrder 78 = .ok (.aload_n 0, 1) := by decide +kernel
theorem dX4_readOrder_79 : decode cX4_readOrder 79 = .ok (.getfield 29, 3) := by decide +kernel
theorem dX4_readOrder_82 : decode cX4_readOrder 82 = .ok (.invokevirtual 56, 3) := by decide +kernel
theorem dX4_readOrder_85 : decode cX4_readOrder 85 = .ok (.ireturn, 1) := by decide +kernel
theorem dX4_readOrder_86 : decode cX4_readOrder 86 = .ok (.aload_n 0, 1) := by decide +kernel
theorem dX4_readOrder_87 : decode cX4_readOrder 87 = .ok (.dup, 1) := by decide +kernel
theorem dX4_readOrder_88 : decode cX4_readOrder 88 = .ok (.getfield 29, 3) := by decide +kernel
theorem dX4_readOrder_91 : decode cX4_readOrder 91 = .ok (.iconst 1, 1) := by decide +kernel
theorem dX4_readOrder_92 : decode cX4_readOrder 92 = .ok (.iadd, 1) := by decide +kernel
theorem dX4_readOrder_93 : decode cX4_readOrder 93 = .ok (.putfield 29, 3) := by decide +kernel
theorem dX4_readOrder_96 : decode cX4_readOrder 96 = .ok (.iconst 1, 1) := by decide +kernel
theorem dX4_readOrder_97 : decode cX4_readOrder 97 = .ok (.ireturn, 1) := by decide +kernel
theorem dX4_numbersBehind_0 : decode cX4_numbersBehind 0 = .ok (.iload_n 0, 1) := by decide +kernel
theorem dX4_numbersBehind_1 : decode cX4_numbersBehind 1 = .ok (.tableswitch 103 100 119 #[99, 103, 103, 97, 103, 103, 103, 95, 103, 103, 103, 103, 97, 103, 103, 103, 103, 101, 103, 101], 95) := by decide +kernel
theorem dX4_numbersBehind_96 : decode cX4_numbersBehind 96 = .ok (.iconst 0, 1) := by decide +kernel
theorem dX4_numbersBehind_97 : decode cX4_numbersBehind 97 = .ok (.ireturn, 1) := by decide +kernel
theorem dX4_numbersBehind_98 : decode cX4_numbersBehind 98 = .ok (.iconst 1, 1) := by decide +kernel
theorem dX4_numbersBehind_99 : decode cX4_numbersBehind 99 = .ok (.ireturn, 1) := by decide +kernel
theorem dX4_numbersBehind_100 : decode cX4_numbersBehind 100 = .ok (.iconst 2, 1) := by decide +kernel
theorem dX4_numbersBehind_101 : decode cX4_numbersBehind 101 = .ok (.ireturn, 1) := by decide +kernel
theorem dX4_numbersBehind_102 : decode cX4_numbersBehind 102 = .ok (.iconst 3, 1) := by decide +kernel
theorem dX4_numbersBehind_103 : decode cX4_numbersBehind 103 = .ok (.ireturn, 1) := by decide +kernel
theorem dX4_numbersBehind_104 : decode cX4_numbersBehind 104 = .ok (.iconst (-1), 1) := by decide +kernel
theorem dX4_numbersBehind_105 : decode cX4_numbersBehind 105 = .ok (.ireturn, 1) := by decide +kernel
theorem dX4_readNumbers_0 : decode cX4_readNumbers 0 = .ok (.iconst 0, 1) := by decide +kernel
theorem dX4_readNumbers_1 : decode cX4_readNumbers 1 = .ok (.istore_n 2, 1) := by decide +kernel
theorem dX4_readNumbers_2 : decode cX4_readNumbers 2 = .ok (.iload_n 2, 1) := by decide +kernel
theorem dX4_readNumbers_3 : decode cX4_readNumbers 3 = .ok (.iload_n 1, 1) := by decide +kernel
theorem dX4_readNumbers_4 : decode cX4_readNumbers 4 = .ok (.if_icmp .ge 31, 3) := by decide +kernel
theorem dX4_readNumbers_7 : decode cX4_readNumbers 7 = .ok (.aload_n 0, 1) := by decide +kernel
theorem dX4_readNumbers_8 : decode cX4_readNumbers 8 = .ok (.getfield 15, 3) := by decide +kernel
theorem dX4_readNumbers_11 : decode cX4_readNumbers 11 = .ok (.iload_n 2, 1) := by decide +kernel
theorem dX4_readNumbers_12 : decode cX4_readNumbers 12 = .ok (.aload_n 0, 1) := by decide +kernel
theorem dX4_readNumbers_13 : decode cX4_readNumbers 13 = .ok (.invokevirtual 66, 3) := by decide +kernel
theorem dX4_readNumbers_16 : decode cX4_readNumbers 16 = .ok (.iastore, 1) := by decide +kernel
theorem dX4_readNumbers_17 : decode cX4_readNumbers 17 = .ok (.aload_n 0, 1) := by decide +kernel
theorem dX4_readNumbers_18 : decode cX4_readNumbers 18 = .ok (.getfield 15, 3) := by decide +kernel
theorem dX4_readNumbers_21 : decode cX4_readNumbers 21 = .ok (.iload_n 2, 1) := by decide +kernel
theorem dX4_readNumbers_22 : decode cX4_readNumbers 22 = .ok (.iaload, 1) := by decide +kernel
theorem dX4_readNumbers_23 : decode cX4_readNumbers 23 = .ok (.iconst (-1), 1) := by decide +kernel
theorem dX4_readNumbers_24 : decode cX4_readNumbers 24 = .ok (.if_icmp .ne 5, 3) := by decide +kernel
theorem dX4_readNumbers_27 : decode cX4_readNumbers 27 = .ok (.iconst 0, 1) := by decide +kernel
theorem dX4_readNumbers_28 : decode cX4_readNumbers 28 = .ok (.ireturn, 1) := by decide +kernel
theorem dX4_readNumbers_29 : decode cX4_readNumbers 29 = .ok (.iinc 2 1, 3) := by decide +kernel
theorem dX4_readNumbers_32 : decode cX4_readNumbers 32 = .ok (.goto (-30), 3) := by decide +kernel
theorem dX4_readNumbers_35 : decode cX4_readNumbers 35 = .ok (.iconst 1, 1) := by decide +kernel
theorem dX4_readNumbers_36 : decode cX4_readNumbers 36 = .ok (.ireturn, 1) := by decide +kernel
theorem dX4_readCycles_0 : decode cX4_readCycles 0 = .ok (.iconst 0, 1) := by decide +kernel
theorem dX4_readCycles_1 : decode cX4_readCycles 1 = .ok (.istore_n 1, 1) := by decide +kernel
theorem dX4_readCycles_2 : decode cX4_readCycles 2 = .ok (.iload_n 1, 1) := by decide +kernel
theorem dX4_readCycles_3 : decode cX4_readCycles 3 = .ok (.bipush 12, 2) := by decide +kernel
theorem dX4_readCycles_5 : decode cX4_readCycles 5 = .ok (.if_icmp .ge 16, 3) := by decide +kernel
theorem dX4_readCycles_8 : decode cX4_readCycles 8 = .ok (.aload_n 0, 1) := by decide +kernel
theorem dX4_readCycles_9 : decode cX4_readCycles 9 = .ok (.getfield 18, 3) := by decide +kernel
theorem dX4_readCycles_12 : decode cX4_readCycles 12 = .ok (.iload_n 1, 1) := by decide +kernel
theorem dX4_readCycles_13 : decode cX4_readCycles 13 = .ok (.iload_n 1, 1) := by decide +kernel
theorem dX4_readCycles_14 : decode cX4_readCycles 14 = .ok (.iastore, 1) := by decide +kernel
theorem dX4_readCycles_15 : decode cX4_readCycles 15 = .ok (.iinc 1 1, 3) := by decide +kernel
theorem dX4_readCycles_18 : decode cX4_readCycles 18 = .ok (.goto (-16), 3) := by decide +kernel
theorem dX4_readCycles_21 : decode cX4_readCycles 21 = .ok (.aload_n 0, 1) := by decide +kernel
theorem dX4_readCycles_22 : decode cX4_readCycles 22 = .ok (.iconst 0, 1) := by decide +kernel
theorem dX4_readCycles_23 : decode cX4_readCycles 23 = .ok (.putfield 69, 3) := by decide +kernel
theorem dX4_readCycles_26 : decode cX4_readCycles 26 = .ok (.iconst 1, 1) := by decide +kernel
theorem dX4_readCycles_27 : decode cX4_readCycles 27 = .ok (.istore_n 1, 1) := by decide +kernel
theorem dX4_readCycles_28 : decode cX4_readCycles 28 = .ok (.iconst 0, 1) := by decide +kernel
theorem dX4_readCycles_29 : decode cX4_readCycles 29 = .ok (.istore_n 2, 1) := by decide +kernel
theorem dX4_readCycles_30 : decode cX4_readCycles 30 = .ok (.iload_n 2, 1) := by decide +kernel
theorem dX4_readCycles_31 : decode cX4_readCycles 31 = .ok (.bipush 12, 2) := by decide +kernel
theorem dX4_readCycles_33 : decode cX4_readCycles 33 = .ok (.if_icmp .ge 37, 3) := by decide +kernel
theorem dX4_readCycles_36 : decode cX4_readCycles 36 = .ok (.iload_n 1, 1) := by decide +kernel
theorem dX4_readCycles_37 : decode cX4_readCycles 37 = .ok (.ifCond .eq 33, 3) := by decide +kernel
theorem dX4_readCycles_40 : decode cX4_readCycles 40 = .ok (.aload_n 0, 1) := by decide +kernel
theorem dX4_readCycles_41 : decode cX4_readCycles 41 = .ok (.invokevirtual 35, 3) := by decide +kernel
theorem dX4_readCycles_44 : decode cX4_readCycles 44 = .ok (.bipush 40, 2) := by decide +kernel
theorem dX4_readCycles_46 : decode cX4_readCycles 46 = .ok (.if_icmp .ne 24, 3) := by decide +kernel
theorem dX4_readCycles_49 : decode cX4_readCycles 49 = .ok (.aload_n 0, 1) := by decide +kernel
theorem dX4_readCycles_50 : decode cX4_readCycles 50 = .ok (.dup, 1) := by decide +kernel
theorem dX4_readCycles_51 : decode cX4_readCycles 51 = .ok (.getfield 29, 3) := by decide +kernel
theorem dX4_readCycles_54 : decode cX4_readCycles 54 = .ok (.iconst 1, 1) := by decide +kernel
theorem dX4_readCycles_55 : decode cX4_readCycles 55 = .ok (.iadd, 1) := by decide +kernel
theorem dX4_readCycles_56 : decode cX4_readCycles 56 = .ok (.putfield 29, 3) := by decide +kernel
theorem dX4_readCycles_59 : decode cX4_readCycles 59 = .ok (.aload_n 0, 1) := by decide +kernel
theorem dX4_readCycles_60 : decode cX4_readCycles 60 = .ok (.invokevirtual 72, 3) := by decide +kernel
theorem dX4_readCycles_63 : decode cX4_readCycles 63 = .ok (.istore_n 1, 1) := by decide +kernel
theorem dX4_readCycles_64 : decode cX4_readCycles 64 = .ok (.iinc 2 1, 3) := by decide +kernel
theorem dX4_readCycles_67 : decode cX4_readCycles 67 = .ok (.goto (-37), 3) := by decide +kernel
theorem dX4_readCycles_70 : decode cX4_readCycles 70 = .ok (.iload_n 1, 1) := by decide +kernel
theorem dX4_readCycles_71 : decode cX4_readCycles 71 = .ok (.ireturn, 1) := by decide +kernel
theorem dX4_readCycle_0 : decode cX4_readCycle 0 = .ok (.iconst (-1), 1) := by decide +kernel
theorem dX4_readCycle_1 : decode cX4_readCycle 1 = .ok (.istore_n 1, 1) := by decide +kernel
theorem dX4_readCycle_2 : decode cX4_readCycle 2 = .ok (.iconst (-1), 1) := by decide +kernel
theorem dX4_readCycle_3 : decode cX4_readCycle 3 = .ok (.istore_n 2, 1) := by decide +kernel
theorem dX4_readCycle_4 : decode cX4_readCycle 4 = .ok (.iconst 0, 1) := by decide +kernel
theorem dX4_readCycle_5 : decode cX4_readCycle 5 = .ok (.istore_n 3, 1) := by decide +kernel
theorem dX4_readCycle_6 : decode cX4_readCycle 6 = .ok (.iload_n 3, 1) := by decide +kernel
theorem dX4_readCycle_7 : decode cX4_readCycle 7 = .ok (.bipush 12, 2) := by decide +kernel
theorem dX4_readCycle_9 : decode cX4_readCycle 9 = .ok (.if_icmp .gt 88, 3) := by decide +kernel
theorem dX4_readCycle_12 : decode cX4_readCycle 12 = .ok (.aload_n 0, 1) := by decide +kernel
theorem dX4_readCycle_13 : decode cX4_readCycle 13 = .ok (.invokevirtual 35, 3) := by decide +kernel
theorem dX4_readCycle_16 : decode cX4_readCycle 16 = .ok (.bipush 41, 2) := by decide +kernel
theorem dX4_readCycle_18 : decode cX4_readCycle 18 = .ok (.if_icmp .ne 27, 3) := by decide +kernel
theorem dX4_readCycle_21 : decode cX4_readCycle 21 = .ok (.iload_n 3, 1) := by decide +kernel
theorem dX4_readCycle_22 : decode cX4_readCycle 22 = .ok (.iconst 2, 1) := by decide +kernel
theorem dX4_readCycle_23 : decode cX4_readCycle 23 = .ok (.if_icmp .lt 22, 3) := by decide +kernel
theorem dX4_readCycle_26 : decode cX4_readCycle 26 = .ok (.aload_n 0, 1) := by decide +kernel
theorem dX4_readCycle_27 : decode cX4_readCycle 27 = .ok (.dup, 1) := by decide +kernel
theorem dX4_readCycle_28 : decode cX4_readCycle 28 = .ok (.getfield 29, 3) := by decide +kernel
theorem dX4_readCycle_31 : decode cX4_readCycle 31 = .ok (.iconst 1, 1) := by decide +kernel
theorem dX4_readCycle_32 : decode cX4_readCycle 32 = .ok (.iadd, 1) := by decide +kernel
theorem dX4_readCycle_33 : decode cX4_readCycle 33 = .ok (.putfield 29, 3) := by decide +kernel
theorem dX4_readCycle_36 : decode cX4_readCycle 36 = .ok (.aload_n 0, 1) := by decide +kernel
theorem dX4_readCycle_37 : decode cX4_readCycle 37 = .ok (.getfield 18, 3) := by decide +kernel
theorem dX4_readCycle_40 : decode cX4_readCycle 40 = .ok (.iload_n 2, 1) := by decide +kernel
theorem dX4_readCycle_41 : decode cX4_readCycle 41 = .ok (.iload_n 1, 1) := by decide +kernel
theorem dX4_readCycle_42 : decode cX4_readCycle 42 = .ok (.iastore, 1) := by decide +kernel
theorem dX4_readCycle_43 : decode cX4_readCycle 43 = .ok (.iconst 1, 1) := by decide +kernel
theorem dX4_readCycle_44 : decode cX4_readCycle 44 = .ok (.ireturn, 1) := by decide +kernel
theorem dX4_readCycle_45 : decode cX4_readCycle 45 = .ok (.aload_n 0, 1) := by decide +kernel
theorem dX4_readCycle_46 : decode cX4_readCycle 46 = .ok (.getfield 29, 3) := by decide +kernel
theorem dX4_readCycle_49 : decode cX4_readCycle 49 = .ok (.istore 4, 2) := by decide +kernel
theorem dX4_readCycle_51 : decode cX4_readCycle 51 = .ok (.aload_n 0, 1) := by decide +kernel
theorem dX4_readCycle_52 : decode cX4_readCycle 52 = .ok (.invokevirtual 66, 3) := by decide +kernel
theorem dX4_readCycle_55 : decode cX4_readCycle 55 = .ok (.istore 5, 2) := by decide +kernel
theorem dX4_readCycle_57 : decode cX4_readCycle 57 = .ok (.aload_n 0, 1) := by decide +kernel
theorem dX4_readCycle_58 : decode cX4_readCycle 58 = .ok (.iload 5, 2) := by decide +kernel
theorem dX4_readCycle_60 : decode cX4_readCycle 60 = .ok (.iload 4, 2) := by decide +kernel
theorem dX4_readCycle_62 : decode cX4_readCycle 62 = .ok (.invokevirtual 75, 3) := by decide +kernel
theorem dX4_readCycle_65 : decode cX4_readCycle 65 = .ok (.ifCond .ne 5, 3) := by decide +kernel
theorem dX4_readCycle_68 : decode cX4_readCycle 68 = .ok (.iconst 0, 1) := by decide +kernel
theorem dX4_readCycle_69 : decode cX4_readCycle 69 = .ok (.ireturn, 1) := by decide +kernel
theorem dX4_readCycle_70 : decode cX4_readCycle 70 = .ok (.iload_n 3, 1) := by decide +kernel
theorem dX4_readCycle_71 : decode cX4_readCycle 71 = .ok (.ifCond .ne 9, 3) := by decide +kernel
theorem dX4_readCycle_74 : decode cX4_readCycle 74 = .ok (.iload 5, 2) := by decide +kernel
theorem dX4_readCycle_76 : decode cX4_readCycle 76 = .ok (.istore_n 1, 1) := by decide +kernel
theorem dX4_readCycle_77 : decode cX4_readCycle 77 = .ok (.goto 11, 3) := by decide +kernel
theorem dX4_readCycle_80 : decode cX4_readCycle 80 = .ok (.aload_n 0, 1) := by decide +kernel
theorem dX4_readCycle_81 : decode cX4_readCycle 81 = .ok (.getfield 18, 3) := by decide +kernel
theorem dX4_readCycle_84 : decode cX4_readCycle 84 = .ok (.iload_n 2, 1) := by decide +kernel
theorem dX4_readCycle_85 : decode cX4_readCycle 85 = .ok (.iload 5, 2) := by decide +kernel
theorem dX4_readCycle_87 : decode cX4_readCycle 87 = .ok (.iastore, 1) := by decide +kernel
theorem dX4_readCycle_88 : decode cX4_readCycle 88 = .ok (.iload 5, 2) := by decide +kernel
theorem dX4_readCycle_90 : decode cX4_readCycle 90 = .ok (.istore_n 2, 1) := by decide +kernel
theorem dX4_readCycle_91 : decode cX4_readCycle 91 = .ok (.iinc 3 1, 3) := by decide +kernel
theorem dX4_readCycle_94 : decode cX4_readCycle 94 = .ok (.goto (-88), 3) := by decide +kernel
theorem dX4_readCycle_97 : decode cX4_readCycle 97 = .ok (.iconst 0, 1) := by decide +kernel
theorem dX4_readCycle_98 : decode cX4_readCycle 98 = .ok (.ireturn, 1) := by decide +kernel
theorem dX4_takesSpot_0 : decode cX4_takesSpot 0 = .ok (.iload_n 1, 1) := by decide +kernel
theorem dX4_takesSpot_1 : decode cX4_takesSpot 1 = .ok (.iconst (-1), 1) := by decide +kernel
theorem dX4_takesSpot_2 : decode cX4_takesSpot 2 = .ok (.if_icmp .ne 5, 3) := by decide +kernel
theorem dX4_takesSpot_5 : decode cX4_takesSpot 5 = .ok (.iconst 0, 1) := by decide +kernel
theorem dX4_takesSpot_6 : decode cX4_takesSpot 6 = .ok (.ireturn, 1) := by decide +kernel
theorem dX4_takesSpot_7 : decode cX4_takesSpot 7 = .ok (.iload_n 1, 1) := by decide +kernel
theorem dX4_takesSpot_8 : decode cX4_takesSpot 8 = .ok (.bipush 12, 2) := by decide +kernel
theorem dX4_takesSpot_10 : decode cX4_takesSpot 10 = .ok (.if_icmp .ge 14, 3) := by decide +kernel
theorem dX4_takesSpot_13 : decode cX4_takesSpot 13 = .ok (.aload_n 0, 1) := by decide +kernel
theorem dX4_takesSpot_14 : decode cX4_takesSpot 14 = .ok (.getfield 69, 3) := by decide +kernel
theorem dX4_takesSpot_17 : decode cX4_takesSpot 17 = .ok (.iload_n 1, 1) := by decide +kernel
theorem dX4_takesSpot_18 : decode cX4_takesSpot 18 = .ok (.ishr, 1) := by decide +kernel
theorem dX4_takesSpot_19 : decode cX4_takesSpot 19 = .ok (.iconst 1, 1) := by decide +kernel
theorem dX4_takesSpot_20 : decode cX4_takesSpot 20 = .ok (.iand, 1) := by decide +kernel
theorem dX4_takesSpot_21 : decode cX4_takesSpot 21 = .ok (.ifCond .eq 9, 3) := by decide +kernel
theorem dX4_takesSpot_24 : decode cX4_takesSpot 24 = .ok (.aload_n 0, 1) := by decide +kernel
theorem dX4_takesSpot_25 : decode cX4_takesSpot 25 = .ok (.iload_n 2, 1) := by decide +kernel
theorem dX4_takesSpot_26 : decode cX4_takesSpot 26 = .ok (.invokevirtual 56, 3) := by decide +kernel
theorem dX4_takesSpot_29 : decode cX4_takesSpot 29 = .ok (.ireturn, 1) := by decide +kernel
theorem dX4_takesSpot_30 : decode cX4_takesSpot 30 = .ok (.aload_n 0, 1) := by decide +kernel
theorem dX4_takesSpot_31 : decode cX4_takesSpot 31 = .ok (.dup, 1) := by decide +kernel
theorem dX4_takesSpot_32 : decode cX4_takesSpot 32 = .ok (.getfield 69, 3) := by decide +kernel
theorem dX4_takesSpot_35 : decode cX4_takesSpot 35 = .ok (.iconst 1, 1) := by decide +kernel
theorem dX4_takesSpot_36 : decode cX4_takesSpot 36 = .ok (.iload_n 1, 1) := by decide +kernel
theorem dX4_takesSpot_37 : decode cX4_takesSpot 37 = .ok (.ishl, 1) := by decide +kernel
theorem dX4_takesSpot_38 : decode cX4_takesSpot 38 = .ok (.ior, 1) := by decide +kernel
theorem dX4_takesSpot_39 : decode cX4_takesSpot 39 = .ok (.putfield 69, 3) := by decide +kernel
theorem dX4_takesSpot_42 : decode cX4_takesSpot 42 = .ok (.iconst 1, 1) := by decide +kernel
theorem dX4_takesSpot_43 : decode cX4_takesSpot 43 = .ok (.ireturn, 1) := by decide +kernel
theorem dX4_readNumber_0 : decode cX4_readNumber 0 = .ok (.aload_n 0, 1) := by decide +kernel
theorem dX4_readNumber_1 : decode cX4_readNumber 1 = .ok (.invokevirtual 78, 3) := by decide +kernel
theorem dX4_readNumber_4 : decode cX4_readNumber 4 = .ok (.iconst 0, 1) := by decide +kernel
theorem dX4_readNumber_5 : decode cX4_readNumber 5 = .ok (.istore_n 1, 1) := by decide +kernel
theorem dX4_readNumber_6 : decode cX4_readNumber 6 = .ok (.iconst 0, 1) := by decide +kernel
theorem dX4_readNumber_7 : decode cX4_readNumber 7 = .ok (.istore_n 2, 1) := by decide +kernel
theorem dX4_readNumber_8 : decode cX4_readNumber 8 = .ok (.iload_n 2, 1) := by decide +kernel
theorem dX4_readNumber_9 : decode cX4_readNumber 9 = .ok (.iconst 2, 1) := by decide +kernel
theorem dX4_readNumber_10 : decode cX4_readNumber 10 = .ok (.if_icmp .ge 44, 3) := by decide +kernel
theorem dX4_readNumber_13 : decode cX4_readNumber 13 = .ok (.aload_n 0, 1) := by decide +kernel
theorem dX4_readNumber_14 : decode cX4_readNumber 14 = .ok (.invokevirtual 81, 3) := by decide +kernel
theorem dX4_readNumber_17 : decode cX4_readNumber 17 = .ok (.ifCond .eq 37, 3) := by decide +kernel
theorem dX4_readNumber_20 : decode cX4_readNumber 20 = .ok (.iload_n 1, 1) := by decide +kernel
theorem dX4_readNumber_21 : decode cX4_readNumber 21 = .ok (.bipush 10, 2) := by decide +kernel
theorem dX4_readNumber_23 : decode cX4_readNumber 23 = .ok (.imul, 1) := by decide +kernel
theorem dX4_readNumber_24 : decode cX4_readNumber 24 = .ok (.aload_n 0, 1) := by decide +kernel
theorem dX4_readNumber_25 : decode cX4_readNumber 25 = .ok (.getfield 9, 3) := by decide +kernel
theorem dX4_readNumber_28 : decode cX4_readNumber 28 = .ok (.aload_n 0, 1) := by decide +kernel
theorem dX4_readNumber_29 : decode cX4_readNumber 29 = .ok (.getfield 29, 3) := by decide +kernel
theorem dX4_readNumber_32 : decode cX4_readNumber 32 = .ok (.iaload, 1) := by decide +kernel
theorem dX4_readNumber_33 : decode cX4_readNumber 33 = .ok (.iadd, 1) := by decide +kernel
theorem dX4_readNumber_34 : decode cX4_readNumber 34 = .ok (.bipush 48, 2) := by decide +kernel
theorem dX4_readNumber_36 : decode cX4_readNumber 36 = .ok (.isub, 1) := by decide +kernel
theorem dX4_readNumber_37 : decode cX4_readNumber 37 = .ok (.istore_n 1, 1) := by decide +kernel
theorem dX4_readNumber_38 : decode cX4_readNumber 38 = .ok (.aload_n 0, 1) := by decide +kernel
theorem dX4_readNumber_39 : decode cX4_readNumber 39 = .ok (.dup, 1) := by decide +kernel
theorem dX4_readNumber_40 : decode cX4_readNumber 40 = .ok (.getfield 29, 3) := by decide +kernel
theorem dX4_readNumber_43 : decode cX4_readNumber 43 = .ok (.iconst 1, 1) := by decide +kernel
theorem dX4_readNumber_44 : decode cX4_readNumber 44 = .ok (.iadd, 1) := by decide +kernel
theorem dX4_readNumber_45 : decode cX4_readNumber 45 = .ok (.putfield 29, 3) := by decide +kernel
theorem dX4_readNumber_48 : decode cX4_readNumber 48 = .ok (.iinc 2 1, 3) := by decide +kernel
theorem dX4_readNumber_51 : decode cX4_readNumber 51 = .ok (.goto (-43), 3) := by decide +kernel
theorem dX4_readNumber_54 : decode cX4_readNumber 54 = .ok (.iload_n 2, 1) := by decide +kernel
theorem dX4_readNumber_55 : decode cX4_readNumber 55 = .ok (.ifCond .eq 10, 3) := by decide +kernel
theorem dX4_readNumber_58 : decode cX4_readNumber 58 = .ok (.aload_n 0, 1) := by decide +kernel
theorem dX4_readNumber_59 : decode cX4_readNumber 59 = .ok (.invokevirtual 81, 3) := by decide +kernel
theorem dX4_readNumber_62 : decode cX4_readNumber 62 = .ok (.ifCond .eq 14, 3) := by decide +kernel
theorem dX4_readNumber_65 : decode cX4_readNumber 65 = .ok (.aload_n 0, 1) := by decide +kernel
theorem dX4_readNumber_66 : decode cX4_readNumber 66 = .ok (.aload_n 0, 1) := by decide +kernel
theorem dX4_readNumber_67 : decode cX4_readNumber 67 = .ok (.getfield 29, 3) := by decide +kernel
theorem dX4_readNumber_70 : decode cX4_readNumber 70 = .ok (.invokevirtual 56, 3) := by decide +kernel
theorem dX4_readNumber_73 : decode cX4_readNumber 73 = .ok (.pop, 1) := by decide +kernel
theorem dX4_readNumber_74 : decode cX4_readNumber 74 = .ok (.iconst (-1), 1) := by decide +kernel
theorem dX4_readNumber_75 : decode cX4_readNumber 75 = .ok (.ireturn, 1) := by decide +kernel
theorem dX4_readNumber_76 : decode cX4_readNumber 76 = .ok (.iload_n 1, 1) := by decide +kernel
theorem dX4_readNumber_77 : decode cX4_readNumber 77 = .ok (.ireturn, 1) := by decide +kernel
theorem dX4_isFigure_0 : decode cX4_isFigure 0 = .ok (.aload_n 0, 1) := by decide +kernel
theorem dX4_isFigure_1 : decode cX4_isFigure 1 = .ok (.getfield 29, 3) := by decide +kernel
theorem dX4_isFigure_4 : decode cX4_isFigure 4 = .ok (.aload_n 0, 1) := by decide +kernel
theorem dX4_isFigure_5 : decode cX4_isFigure 5 = .ok (.getfield 25, 3) := by decide +kernel
theorem dX4_isFigure_8 : decode cX4_isFigure 8 = .ok (.if_icmp .ge 35, 3) := by decide +kernel
theorem dX4_isFigure_11 : decode cX4_isFigure 11 = .ok (.aload_n 0, 1) := by decide +kernel
theorem dX4_isFigure_12 : decode cX4_isFigure 12 = .ok (.getfield 9, 3) := by decide +kernel
theorem dX4_isFigure_15 : decode cX4_isFigure 15 = .ok (.aload_n 0, 1) := by decide +kernel
theorem dX4_isFigure_16 : decode cX4_isFigure 16 = .ok (.getfield 29, 3) := by decide +kernel
theorem dX4_isFigure_19 : decode cX4_isFigure 19 = .ok (.iaload, 1) := by decide +kernel
theorem dX4_isFigure_20 : decode cX4_isFigure 20 = .ok (.bipush 48, 2) := by decide +kernel
theorem dX4_isFigure_22 : decode cX4_isFigure 22 = .ok (.if_icmp .lt 21, 3) := by decide +kernel
theorem dX4_isFigure_25 : decode cX4_isFigure 25 = .ok (.aload_n 0, 1) := by decide +kernel
theorem dX4_isFigure_26 : decode cX4_isFigure 26 = .ok (.getfield 9, 3) := by decide +kernel
theorem dX4_isFigure_29 : decode cX4_isFigure 29 = .ok (.aload_n 0, 1) := by decide +kernel
theorem dX4_isFigure_30 : decode cX4_isFigure 30 = .ok (.getfield 29, 3) := by decide +kernel
theorem dX4_isFigure_33 : decode cX4_isFigure 33 = .ok (.iaload, 1) := by decide +kernel
theorem dX4_isFigure_34 : decode cX4_isFigure 34 = .ok (.bipush 57, 2) := by decide +kernel
theorem dX4_isFigure_36 : decode cX4_isFigure 36 = .ok (.if_icmp .gt 7, 3) := by decide +kernel
theorem dX4_isFigure_39 : decode cX4_isFigure 39 = .ok (.iconst 1, 1) := by decide +kernel
theorem dX4_isFigure_40 : decode cX4_isFigure 40 = .ok (.goto 4, 3) := by decide +kernel
theorem dX4_isFigure_43 : decode cX4_isFigure 43 = .ok (.iconst 0, 1) := by decide +kernel
theorem dX4_isFigure_44 : decode cX4_isFigure 44 = .ok (.ireturn, 1) := by decide +kernel
theorem dX4_nextSign_0 : decode cX4_nextSign 0 = .ok (.aload_n 0, 1) := by decide +kernel
theorem dX4_nextSign_1 : decode cX4_nextSign 1 = .ok (.invokevirtual 78, 3) := by decide +kernel
theorem dX4_nextSign_4 : decode cX4_nextSign 4 = .ok (.aload_n 0, 1) := by decide +kernel
theorem dX4_nextSign_5 : decode cX4_nextSign 5 = .ok (.getfield 29, 3) := by decide +kernel
theorem dX4_nextSign_8 : decode cX4_nextSign 8 = .ok (.aload_n 0, 1) := by decide +kernel
theorem dX4_nextSign_9 : decode cX4_nextSign 9 = .ok (.getfield 25, 3) := by decide +kernel
theorem dX4_nextSign_12 : decode cX4_nextSign 12 = .ok (.if_icmp .ge 15, 3) := by decide +kernel
theorem dX4_nextSign_15 : decode cX4_nextSign 15 = .ok (.aload_n 0, 1) := by decide +kernel
theorem dX4_nextSign_16 : decode cX4_nextSign 16 = .ok (.getfield 9, 3) := by decide +kernel
theorem dX4_nextSign_19 : decode cX4_nextSign 19 = .ok (.aload_n 0, 1) := by decide +kernel
theorem dX4_nextSign_20 : decode cX4_nextSign 20 = .ok (.getfield 29, 3) := by decide +kernel
theorem dX4_nextSign_23 : decode cX4_nextSign 23 = .ok (.iaload, 1) := by decide +kernel
theorem dX4_nextSign_24 : decode cX4_nextSign 24 = .ok (.goto 4, 3) := by decide +kernel
theorem dX4_nextSign_27 : decode cX4_nextSign 27 = .ok (.iconst (-1), 1) := by decide +kernel
theorem dX4_nextSign_28 : decode cX4_nextSign 28 = .ok (.ireturn, 1) := by decide +kernel
theorem dX4_skipBlanks_0 : decode cX4_skipBlanks 0 = .ok (.aload_n 0, 1) := by decide +kernel
theorem dX4_skipBlanks_1 : decode cX4_skipBlanks 1 = .ok (.getfield 29, 3) := by decide +kernel
theorem dX4_skipBlanks_4 : decode cX4_skipBlanks 4 = .ok (.aload_n 0, 1) := by decide +kernel
theorem dX4_skipBlanks_5 : decode cX4_skipBlanks 5 = .ok (.getfield 25, 3) := by decide +kernel
theorem dX4_skipBlanks_8 : decode cX4_skipBlanks 8 = .ok (.if_icmp .ge 30, 3) := by decide +kernel
theorem dX4_skipBlanks_11 : decode cX4_skipBlanks 11 = .ok (.aload_n 0, 1) := by decide +kernel
theorem dX4_skipBlanks_12 : decode cX4_skipBlanks 12 = .ok (.getfield 9, 3) := by decide +kernel
theorem dX4_skipBlanks_15 : decode cX4_skipBlanks 15 = .ok (.aload_n 0, 1) := by decide +kernel
theorem dX4_skipBlanks_16 : decode cX4_skipBlanks 16 = .ok (.getfield 29, 3) := by decide +kernel
theorem dX4_skipBlanks_19 : decode cX4_skipBlanks 19 = .ok (.iaload, 1) := by decide +kernel
theorem dX4_skipBlanks_20 : decode cX4_skipBlanks 20 = .ok (.bipush 32, 2) := by decide +kernel
theorem dX4_skipBlanks_22 : decode cX4_skipBlanks 22 = .ok (.if_icmp .ne 16, 3) := by decide +kernel
theorem dX4_skipBlanks_25 : decode cX4_skipBlanks 25 = .ok (.aload_n 0, 1) := by decide +kernel
theorem dX4_skipBlanks_26 : decode cX4_skipBlanks 26 = .ok (.dup, 1) := by decide +kernel
theorem dX4_skipBlanks_27 : decode cX4_skipBlanks 27 = .ok (.getfield 29, 3) := by decide +kernel
theorem dX4_skipBlanks_30 : decode cX4_skipBlanks 30 = .ok (.iconst 1, 1) := by decide +kernel
theorem dX4_skipBlanks_31 : decode cX4_skipBlanks 31 = .ok (.iadd, 1) := by decide +kernel
theorem dX4_skipBlanks_32 : decode cX4_skipBlanks 32 = .ok (.putfield 29, 3) := by decide +kernel
theorem dX4_skipBlanks_35 : decode cX4_skipBlanks 35 = .ok (.goto (-35), 3) := by decide +kernel
theorem dX4_skipBlanks_38 : decode cX4_skipBlanks 38 = .ok (.return_, 1) := by decide +kernel
theorem dX4_fails_0 : decode cX4_fails 0 = .ok (.aload_n 0, 1) := by decide +kernel
theorem dX4_fails_1 : decode cX4_fails 1 = .ok (.iload_n 1, 1) := by decide +kernel
theorem dX4_fails_2 : decode cX4_fails 2 = .ok (.putfield 32, 3) := by decide +kernel
theorem dX4_fails_5 : decode cX4_fails 5 = .ok (.iconst 0, 1) := by decide +kernel
theorem dX4_fails_6 : decode cX4_fails 6 = .ok (.ireturn, 1) := by decide +kernel
theorem dX5_init_0 : decode cX5_init 0 = .ok (.aload_n 0, 1) := by decide +kernel
theorem dX5_init_1 : decode cX5_init 1 = .ok (.invokespecial 3, 3) := by decide +kernel
theorem dX5_init_4 : decode cX5_init 4 = .ok (.aload_n 0, 1) := by decide +kernel
theorem dX5_init_5 : decode cX5_init 5 = .ok (.new 9, 3) := by decide +kernel
theorem dX5_init_8 : decode cX5_init 8 = .ok (.dup, 1) := by decide +kernel
theorem dX5_init_9 : decode cX5_init 9 = .ok (.invokespecial 11, 3) := by decide +kernel
theorem dX5_init_12 : decode cX5_init 12 = .ok (.putfield 12, 3) := by decide +kernel
theorem dX5_init_15 : decode cX5_init 15 = .ok (.aload_n 0, 1) := by decide +kernel
theorem dX5_init_16 : decode cX5_init 16 = .ok (.new 16, 3) := by decide +kernel
theorem dX5_init_19 : decode cX5_init 19 = .ok (.dup, 1) := by decide +kernel
theorem dX5_init_20 : decode cX5_init 20 = .ok (.invokespecial 18, 3) := by decide +kernel
theorem dX5_init_23 : decode cX5_init 23 = .ok (.putfield 19, 3) := by decide +kernel
theorem dX5_init_26 : decode cX5_init 26 = .ok (.aload_n 0, 1) := by decide +kernel
theorem dX5_init_27 : decode cX5_init 27 = .ok (.new 23, 3) := by decide +kernel
theorem dX5_init_30 : decode cX5_init 30 = .ok (.dup, 1) := by decide +kernel
theorem dX5_init_31 : decode cX5_init 31 = .ok (.invokespecial 25, 3) := by decide +kernel
theorem dX5_init_34 : decode cX5_init 34 = .ok (.putfield 26, 3) := by decide +kernel
theorem dX5_init_37 : decode cX5_init 37 = .ok (.aload_n 0, 1) := by decide +kernel
theorem dX5_init_38 : decode cX5_init 38 = .ok (.new 30, 3) := by decide +kernel
theorem dX5_init_41 : decode cX5_init 41 = .ok (.dup, 1) := by decide +kernel
theorem dX5_init_42 : decode cX5_init 42 = .ok (.invokespecial 32, 3) := by decide +kernel
theorem dX5_init_45 : decode cX5_init 45 = .ok (.putfield 33, 3) := by decide +kernel
theorem dX5_init_48 : decode cX5_init 48 = .ok (.aload_n 0, 1) := by decide +kernel
theorem dX5_init_49 : decode cX5_init 49 = .ok (.iconst 3, 1) := by decide +kernel
theorem dX5_init_50 : decode cX5_init 50 = .ok (.newarray .int, 2) := by decide +kernel
theorem dX5_init_52 : decode cX5_init 52 = .ok (.putfield 37, 3) := by decide +kernel
theorem dX5_init_55 : decode cX5_init 55 = .ok (.return_, 1) := by decide +kernel
theorem dX5_dancer_0 : decode cX5_dancer 0 = .ok (.aload_n 0, 1) := by decide +kernel
theorem dX5_dancer_1 : decode cX5_dancer 1 = .ok (.getfield 19, 3) := by decide +kernel
theorem dX5_dancer_4 : decode cX5_dancer 4 = .ok (.aload_n 0, 1) := by decide +kernel
theorem dX5_dancer_5 : decode cX5_dancer 5 = .ok (.getfield 12, 3) := by decide +kernel
theorem dX5_dancer_8 : decode cX5_dancer 8 = .ok (.invokevirtual 41, 3) := by decide +kernel
theorem dX5_dancer_11 : decode cX5_dancer 11 = .ok (.aload_n 0, 1) := by decide +kernel
theorem dX5_dancer_12 : decode cX5_dancer 12 = .ok (.aload_n 0, 1) := by decide +kernel
theorem dX5_dancer_13 : decode cX5_dancer 13 = .ok (.getfield 12, 3) := by decide +kernel
theorem dX5_dancer_16 : decode cX5_dancer 16 = .ok (.iload_n 1, 1) := by decide +kernel
theorem dX5_dancer_17 : decode cX5_dancer 17 = .ok (.iload_n 2, 1) := by decide +kernel
theorem dX5_dancer_18 : decode cX5_dancer 18 = .ok (.invokevirtual 45, 3) := by decide +kernel
theorem dX5_dancer_21 : decode cX5_dancer 21 = .ok (.invokevirtual 49, 3) := by decide +kernel
theorem dX5_dancer_24 : decode cX5_dancer 24 = .ok (.ireturn, 1) := by decide +kernel
theorem dX5_call_0 : decode cX5_call 0 = .ok (.aload_n 0, 1) := by decide +kernel
theorem dX5_call_1 : decode cX5_call 1 = .ok (.getfield 19, 3) := by decide +kernel
theorem dX5_call_4 : decode cX5_call 4 = .ok (.aload_n 0, 1) := by decide +kernel
theorem dX5_call_5 : decode cX5_call 5 = .ok (.getfield 12, 3) := by decide +kernel
theorem dX5_call_8 : decode cX5_call 8 = .ok (.invokevirtual 41, 3) := by decide +kernel
theorem dX5_call_11 : decode cX5_call 11 = .ok (.aload_n 0, 1) := by decide +kernel
theorem dX5_call_12 : decode cX5_call 12 = .ok (.aload_n 0, 1) := by decide +kernel
theorem dX5_call_13 : decode cX5_call 13 = .ok (.getfield 12, 3) := by decide +kernel
theorem dX5_call_16 : decode cX5_call 16 = .ok (.invokevirtual 53, 3) := by decide +kernel
theorem dX5_call_19 : decode cX5_call 19 = .ok (.invokevirtual 49, 3) := by decide +kernel
theorem dX5_call_22 : decode cX5_call 22 = .ok (.ireturn, 1) := by decide +kernel
theorem dX5_exchanges_0 : decode cX5_exchanges 0 = .ok (.aload_n 0, 1) := by decide +kernel
theorem dX5_exchanges_1 : decode cX5_exchanges 1 = .ok (.getfield 19, 3) := by decide +kernel
theorem dX5_exchanges_4 : decode cX5_exchanges 4 = .ok (.aload_n 0, 1) := by decide +kernel
theorem dX5_exchanges_5 : decode cX5_exchanges 5 = .ok (.getfield 12, 3) := by decide +kernel
theorem dX5_exchanges_8 : decode cX5_exchanges 8 = .ok (.invokevirtual 41, 3) := by decide +kernel
theorem dX5_exchanges_11 : decode cX5_exchanges 11 = .ok (.aload_n 0, 1) := by decide +kernel
theorem dX5_exchanges_12 : decode cX5_exchanges 12 = .ok (.aload_n 0, 1) := by decide +kernel
theorem dX5_exchanges_13 : decode cX5_exchanges 13 = .ok (.getfield 12, 3) := by decide +kernel
theorem dX5_exchanges_16 : decode cX5_exchanges 16 = .ok (.iload_n 1, 1) := by decide +kernel
theorem dX5_exchanges_17 : decode cX5_exchanges 17 = .ok (.iload_n 2, 1) := by decide +kernel
theorem dX5_exchanges_18 : decode cX5_exchanges 18 = .ok (.iload_n 3, 1) := by decide +kernel
theorem dX5_exchanges_19 : decode cX5_exchanges 19 = .ok (.invokevirtual 57, 3) := by decide +kernel
theorem dX5_exchanges_22 : decode cX5_exchanges 22 = .ok (.invokevirtual 49, 3) := by decide +kernel
theorem dX5_exchanges_25 : decode cX5_exchanges 25 = .ok (.ireturn, 1) := by decide +kernel
theorem dX5_turns_0 : decode cX5_turns 0 = .ok (.aload_n 0, 1) := by decide +kernel
theorem dX5_turns_1 : decode cX5_turns 1 = .ok (.getfield 19, 3) := by decide +kernel
theorem dX5_turns_4 : decode cX5_turns 4 = .ok (.aload_n 0, 1) := by decide +kernel
theorem dX5_turns_5 : decode cX5_turns 5 = .ok (.getfield 12, 3) := by decide +kernel
theorem dX5_turns_8 : decode cX5_turns 8 = .ok (.invokevirtual 41, 3) := by decide +kernel
theorem dX5_turns_11 : decode cX5_turns 11 = .ok (.aload_n 0, 1) := by decide +kernel
theorem dX5_turns_12 : decode cX5_turns 12 = .ok (.aload_n 0, 1) := by decide +kernel
theorem dX5_turns_13 : decode cX5_turns 13 = .ok (.getfield 12, 3) := by decide +kernel
theorem dX5_turns_16 : decode cX5_turns 16 = .ok (.iload_n 1, 1) := by decide +kernel
theorem dX5_turns_17 : decode cX5_turns 17 = .ok (.iload_n 2, 1) := by decide +kernel
theorem dX5_turns_18 : decode cX5_turns 18 = .ok (.iload_n 3, 1) := by decide +kernel
theorem dX5_turns_19 : decode cX5_turns 19 = .ok (.invokevirtual 61, 3) := by decide +kernel
theorem dX5_turns_22 : decode cX5_turns 22 = .ok (.invokevirtual 49, 3) := by decide +kernel
theorem dX5_turns_25 : decode cX5_turns 25 = .ok (.ireturn, 1) := by decide +kernel
theorem dX5_wants_0 : decode cX5_wants 0 = .ok (.aload_n 0, 1) := by decide +kernel
theorem dX5_wants_1 : decode cX5_wants 1 = .ok (.getfield 19, 3) := by decide +kernel
theorem dX5_wants_4 : decode cX5_wants 4 = .ok (.aload_n 0, 1) := by decide +kernel
theorem dX5_wants_5 : decode cX5_wants 5 = .ok (.getfield 12, 3) := by decide +kernel
theorem dX5_wants_8 : decode cX5_wants 8 = .ok (.invokevirtual 41, 3) := by decide +kernel
theorem dX5_wants_11 : decode cX5_wants 11 = .ok (.aload_n 0, 1) := by decide +kernel
theorem dX5_wants_12 : decode cX5_wants 12 = .ok (.aload_n 0, 1) := by decide +kernel
theorem dX5_wants_13 : decode cX5_wants 13 = .ok (.getfield 12, 3) := by decide +kernel
theorem dX5_wants_16 : decode cX5_wants 16 = .ok (.iload_n 1, 1) := by decide +kernel
theorem dX5_wants_17 : decode cX5_wants 17 = .ok (.iload_n 2, 1) := by decide +kernel
theorem dX5_wants_18 : decode cX5_wants 18 = .ok (.iload_n 3, 1) := by decide +kernel
theorem dX5_wants_19 : decode cX5_wants 19 = .ok (.invokevirtual 64, 3) := by decide +kernel
theorem dX5_wants_22 : decode cX5_wants 22 = .ok (.invokevirtual 49, 3) := by decide +kernel
theorem dX5_wants_25 : decode cX5_wants 25 = .ok (.ireturn, 1) := by decide +kernel
theorem dX5_joins_0 : decode cX5_joins 0 = .ok (.aload_n 0, 1) := by decide +kernel
theorem dX5_joins_1 : decode cX5_joins 1 = .ok (.getfield 19, 3) := by decide +kernel
theorem dX5_joins_4 : decode cX5_joins 4 = .ok (.aload_n 0, 1) := by decide +kernel
theorem dX5_joins_5 : decode cX5_joins 5 = .ok (.getfield 12, 3) := by decide +kernel
theorem dX5_joins_8 : decode cX5_joins 8 = .ok (.invokevirtual 41, 3) := by decide +kernel
theorem dX5_joins_11 : decode cX5_joins 11 = .ok (.aload_n 0, 1) := by decide +kernel
theorem dX5_joins_12 : decode cX5_joins 12 = .ok (.aload_n 0, 1) := by decide +kernel
theorem dX5_joins_13 : decode cX5_joins 13 = .ok (.getfield 12, 3) := by decide +kernel
theorem dX5_joins_16 : decode cX5_joins 16 = .ok (.iload_n 1, 1) := by decide +kernel
theorem dX5_joins_17 : decode cX5_joins 17 = .ok (.iload_n 2, 1) := by decide +kernel
theorem dX5_joins_18 : decode cX5_joins 18 = .ok (.invokevirtual 67, 3) := by decide +kernel
theorem dX5_joins_21 : decode cX5_joins 21 = .ok (.invokevirtual 49, 3) := by decide +kernel
theorem dX5_joins_24 : decode cX5_joins 24 = .ok (.ireturn, 1) := by decide +kernel
theorem dX5_backwards_0 : decode cX5_backwards 0 = .ok (.aload_n 0, 1) := by decide +kernel
theorem dX5_backwards_1 : decode cX5_backwards 1 = .ok (.getfield 19, 3) := by decide +kernel
theorem dX5_backwards_4 : decode cX5_backwards 4 = .ok (.aload_n 0, 1) := by decide +kernel
theorem dX5_backwards_5 : decode cX5_backwards 5 = .ok (.getfield 12, 3) := by decide +kernel
theorem dX5_backwards_8 : decode cX5_backwards 8 = .ok (.invokevirtual 41, 3) := by decide +kernel
theorem dX5_backwards_11 : decode cX5_backwards 11 = .ok (.aload_n 0, 1) := by decide +kernel
theorem dX5_backwards_12 : decode cX5_backwards 12 = .ok (.aload_n 0, 1) := by decide +kernel
theorem dX5_backwards_13 : decode cX5_backwards 13 = .ok (.getfield 12, 3) := by decide +kernel
theorem dX5_backwards_16 : decode cX5_backwards 16 = .ok (.iload_n 1, 1) := by decide +kernel
theorem dX5_backwards_17 : decode cX5_backwards 17 = .ok (.invokevirtual 70, 3) := by decide +kernel
theorem dX5_backwards_20 : decode cX5_backwards 20 = .ok (.invokevirtual 49, 3) := by decide +kernel
theorem dX5_backwards_23 : decode cX5_backwards 23 = .ok (.ireturn, 1) := by decide +kernel
theorem dX5_gives_0 : decode cX5_gives 0 = .ok (.aload_n 0, 1) := by decide +kernel
theorem dX5_gives_1 : decode cX5_gives 1 = .ok (.getfield 19, 3) := by decide +kernel
theorem dX5_gives_4 : decode cX5_gives 4 = .ok (.aload_n 0, 1) := by decide +kernel
theorem dX5_gives_5 : decode cX5_gives 5 = .ok (.getfield 12, 3) := by decide +kernel
theorem dX5_gives_8 : decode cX5_gives 8 = .ok (.invokevirtual 41, 3) := by decide +kernel
theorem dX5_gives_11 : decode cX5_gives 11 = .ok (.aload_n 0, 1) := by decide +kernel
theorem dX5_gives_12 : decode cX5_gives 12 = .ok (.aload_n 0, 1) := by decide +kernel
theorem dX5_gives_13 : decode cX5_gives 13 = .ok (.getfield 12, 3) := by decide +kernel
theorem dX5_gives_16 : decode cX5_gives 16 = .ok (.iload_n 1, 1) := by decide +kernel
theorem dX5_gives_17 : decode cX5_gives 17 = .ok (.invokevirtual 73, 3) := by decide +kernel
theorem dX5_gives_20 : decode cX5_gives 20 = .ok (.invokevirtual 49, 3) := by decide +kernel
theorem dX5_gives_23 : decode cX5_gives 23 = .ok (.ireturn, 1) := by decide +kernel
theorem dX5_home_0 : decode cX5_home 0 = .ok (.aload_n 0, 1) := by decide +kernel
theorem dX5_home_1 : decode cX5_home 1 = .ok (.getfield 19, 3) := by decide +kernel
theorem dX5_home_4 : decode cX5_home 4 = .ok (.aload_n 0, 1) := by decide +kernel
theorem dX5_home_5 : decode cX5_home 5 = .ok (.getfield 12, 3) := by decide +kernel
theorem dX5_home_8 : decode cX5_home 8 = .ok (.invokevirtual 41, 3) := by decide +kernel
theorem dX5_home_11 : decode cX5_home 11 = .ok (.aload_n 0, 1) := by decide +kernel
theorem dX5_home_12 : decode cX5_home 12 = .ok (.aload_n 0, 1) := by decide +kernel
theorem dX5_home_13 : decode cX5_home 13 = .ok (.getfield 12, 3) := by decide +kernel
theorem dX5_home_16 : decode cX5_home 16 = .ok (.invokevirtual 76, 3) := by decide +kernel
theorem dX5_home_19 : decode cX5_home 19 = .ok (.invokevirtual 49, 3) := by decide +kernel
theorem dX5_home_22 : decode cX5_home 22 = .ok (.ireturn, 1) := by decide +kernel
theorem dX5_of_0 : decode cX5_of 0 = .ok (.aload_n 0, 1) := by decide +kernel
theorem dX5_of_1 : decode cX5_of 1 = .ok (.aload_n 0, 1) := by decide +kernel
theorem dX5_of_2 : decode cX5_of 2 = .ok (.getfield 12, 3) := by decide +kernel
theorem dX5_of_5 : decode cX5_of 5 = .ok (.iload_n 1, 1) := by decide +kernel
theorem dX5_of_6 : decode cX5_of 6 = .ok (.iload_n 2, 1) := by decide +kernel
theorem dX5_of_7 : decode cX5_of 7 = .ok (.invokevirtual 79, 3) := by decide +kernel
theorem dX5_of_10 : decode cX5_of 10 = .ok (.invokevirtual 82, 3) := by decide +kernel
theorem dX5_of_13 : decode cX5_of 13 = .ok (.ireturn, 1) := by decide +kernel
theorem dX5_on_0 : decode cX5_on 0 = .ok (.aload_n 0, 1) := by decide +kernel
theorem dX5_on_1 : decode cX5_on 1 = .ok (.iload_n 1, 1) := by decide +kernel
theorem dX5_on_2 : decode cX5_on 2 = .ok (.bipush 12, 2) := by decide +kernel
theorem dX5_on_4 : decode cX5_on 4 = .ok (.invokestatic 85, 3) := by decide +kernel
theorem dX5_on_7 : decode cX5_on 7 = .ok (.ifCond .eq 14, 3) := by decide +kernel
theorem dX5_on_10 : decode cX5_on 10 = .ok (.aload_n 0, 1) := by decide +kernel
theorem dX5_on_11 : decode cX5_on 11 = .ok (.getfield 12, 3) := by decide +kernel
theorem dX5_on_14 : decode cX5_on 14 = .ok (.iload_n 1, 1) := by decide +kernel
theorem dX5_on_15 : decode cX5_on 15 = .ok (.invokevirtual 89, 3) := by decide +kernel
theorem dX5_on_18 : decode cX5_on 18 = .ok (.goto 5, 3) := by decide +kernel
theorem dX5_on_21 : decode cX5_on 21 = .ok (.bipush (-2), 2) := by decide +kernel
theorem dX5_on_23 : decode cX5_on 23 = .ok (.invokevirtual 82, 3) := by decide +kernel
theorem dX5_on_26 : decode cX5_on 26 = .ok (.ireturn, 1) := by decide +kernel
theorem dX5_at_0 : decode cX5_at 0 = .ok (.aload_n 0, 1) := by decide +kernel
theorem dX5_at_1 : decode cX5_at 1 = .ok (.aload_n 0, 1) := by decide +kernel
theorem dX5_at_2 : decode cX5_at 2 = .ok (.getfield 12, 3) := by decide +kernel
theorem dX5_at_5 : decode cX5_at 5 = .ok (.iload_n 1, 1) := by decide +kernel
theorem dX5_at_6 : decode cX5_at 6 = .ok (.iload_n 2, 1) := by decide +kernel
theorem dX5_at_7 : decode cX5_at 7 = .ok (.iload_n 3, 1) := by decide +kernel
theorem dX5_at_8 : decode cX5_at 8 = .ok (.invokevirtual 92, 3) := by decide +kernel
theorem dX5_at_11 : decode cX5_at 11 = .ok (.invokevirtual 82, 3) := by decide +kernel
theorem dX5_at_14 : decode cX5_at 14 = .ok (.ireturn, 1) := by decide +kernel
theorem dX5_tells_0 : decode cX5_tells 0 = .ok (.aload_n 0, 1) := by decide +kernel
theorem dX5_tells_1 : decode cX5_tells 1 = .ok (.aload_n 0, 1) := by decide +kernel
theorem dX5_tells_2 : decode cX5_tells 2 = .ok (.getfield 12, 3) := by decide +kernel
theorem dX5_tells_5 : decode cX5_tells 5 = .ok (.iload_n 1, 1) := by decide +kernel
theorem dX5_tells_6 : decode cX5_tells 6 = .ok (.iload_n 2, 1) := by decide +kernel
theorem dX5_tells_7 : decode cX5_tells 7 = .ok (.invokevirtual 95, 3) := by decide +kernel
theorem dX5_tells_10 : decode cX5_tells 10 = .ok (.invokevirtual 82, 3) := by decide +kernel
theorem dX5_tells_13 : decode cX5_tells 13 = .ok (.ireturn, 1) := by decide +kernel
theorem dX5_finds_0 : decode cX5_finds 0 = .ok (.aload_n 0, 1) := by decide +kernel
theorem dX5_finds_1 : decode cX5_finds 1 = .ok (.iload_n 1, 1) := by decide +kernel
theorem dX5_finds_2 : decode cX5_finds 2 = .ok (.iload_n 2, 1) := by decide +kernel
theorem dX5_finds_3 : decode cX5_finds 3 = .ok (.iload_n 3, 1) := by decide +kernel
theorem dX5_finds_4 : decode cX5_finds 4 = .ok (.invokestatic 98, 3) := by decide +kernel
theorem dX5_finds_7 : decode cX5_finds 7 = .ok (.ifCond .eq 20, 3) := by decide +kernel
theorem dX5_finds_10 : decode cX5_finds 10 = .ok (.aload_n 0, 1) := by decide +kernel
theorem dX5_finds_11 : decode cX5_finds 11 = .ok (.getfield 33, 3) := by decide +kernel
theorem dX5_finds_14 : decode cX5_finds 14 = .ok (.aload_n 0, 1) := by decide +kernel
theorem dX5_finds_15 : decode cX5_finds 15 = .ok (.getfield 12, 3) := by decide +kernel
theorem dX5_finds_18 : decode cX5_finds 18 = .ok (.iload_n 1, 1) := by decide +kernel
theorem dX5_finds_19 : decode cX5_finds 19 = .ok (.iload_n 2, 1) := by decide +kernel
theorem dX5_finds_20 : decode cX5_finds 20 = .ok (.iload_n 3, 1) := by decide +kernel
theorem dX5_finds_21 : decode cX5_finds 21 = .ok (.invokevirtual 102, 3) := by decide +kernel
end
section
theorem dX5_finds_24 : decode cX5_finds 24 = .ok (.goto 5, 3) := by decide +kernel
theorem dX5_finds_27 : decode cX5_finds 27 = .ok (.bipush (-2), 2) := by decide +kernel
theorem dX5_finds_29 : decode cX5_finds 29 = .ok (.invokevirtual 82, 3) := by decide +kernel
theorem dX5_finds_32 : decode cX5_finds 32 = .ok (.ireturn, 1) := by decide +kernel
theorem dX5_found_0 : decode cX5_found 0 = .ok (.iload_n 1, 1) := by decide +kernel
theorem dX5_found_1 : decode cX5_found 1 = .ok (.iload_n 2, 1) := by decide +kernel
theorem dX5_found_2 : decode cX5_found 2 = .ok (.iload_n 3, 1) := by decide +kernel
theorem dX5_found_3 : decode cX5_found 3 = .ok (.invokestatic 98, 3) := by decide +kernel
theorem dX5_found_6 : decode cX5_found 6 = .ok (.ifCond .eq 8, 3) := by decide +kernel
theorem dX5_found_9 : decode cX5_found 9 = .ok (.iload 4, 2) := by decide +kernel
theorem dX5_found_11 : decode cX5_found 11 = .ok (.ifCond .ge 10, 3) := by decide +kernel
theorem dX5_found_14 : decode cX5_found 14 = .ok (.aload_n 0, 1) := by decide +kernel
theorem dX5_found_15 : decode cX5_found 15 = .ok (.bipush (-2), 2) := by decide +kernel
theorem dX5_found_17 : decode cX5_found 17 = .ok (.invokevirtual 82, 3) := by decide +kernel
theorem dX5_found_20 : decode cX5_found 20 = .ok (.ireturn, 1) := by decide +kernel
theorem dX5_found_21 : decode cX5_found 21 = .ok (.iload 4, 2) := by decide +kernel
theorem dX5_found_23 : decode cX5_found 23 = .ok (.aload_n 0, 1) := by decide +kernel
theorem dX5_found_24 : decode cX5_found 24 = .ok (.getfield 33, 3) := by decide +kernel
theorem dX5_found_27 : decode cX5_found 27 = .ok (.aload_n 0, 1) := by decide +kernel
theorem dX5_found_28 : decode cX5_found 28 = .ok (.getfield 12, 3) := by decide +kernel
theorem dX5_found_31 : decode cX5_found 31 = .ok (.iload_n 1, 1) := by decide +kernel
theorem dX5_found_32 : decode cX5_found 32 = .ok (.iload_n 2, 1) := by decide +kernel
theorem dX5_found_33 : decode cX5_found 33 = .ok (.iload_n 3, 1) := by decide +kernel
theorem dX5_found_34 : decode cX5_found 34 = .ok (.invokevirtual 102, 3) := by decide +kernel
theorem dX5_found_37 : decode cX5_found 37 = .ok (.if_icmp .ge 15, 3) := by decide +kernel
theorem dX5_found_40 : decode cX5_found 40 = .ok (.aload_n 0, 1) := by decide +kernel
theorem dX5_found_41 : decode cX5_found 41 = .ok (.getfield 33, 3) := by decide +kernel
theorem dX5_found_44 : decode cX5_found 44 = .ok (.iload 4, 2) := by decide +kernel
theorem dX5_found_46 : decode cX5_found 46 = .ok (.invokevirtual 106, 3) := by decide +kernel
theorem dX5_found_49 : decode cX5_found 49 = .ok (.goto 4, 3) := by decide +kernel
theorem dX5_found_52 : decode cX5_found 52 = .ok (.iconst (-1), 1) := by decide +kernel
theorem dX5_found_53 : decode cX5_found 53 = .ok (.ireturn, 1) := by decide +kernel
theorem dX5_rows_0 : decode cX5_rows 0 = .ok (.iload_n 1, 1) := by decide +kernel
theorem dX5_rows_1 : decode cX5_rows 1 = .ok (.iconst 3, 1) := by decide +kernel
theorem dX5_rows_2 : decode cX5_rows 2 = .ok (.invokestatic 85, 3) := by decide +kernel
theorem dX5_rows_5 : decode cX5_rows 5 = .ok (.ifCond .eq 15, 3) := by decide +kernel
theorem dX5_rows_8 : decode cX5_rows 8 = .ok (.iload_n 2, 1) := by decide +kernel
theorem dX5_rows_9 : decode cX5_rows 9 = .ok (.iconst 5, 1) := by decide +kernel
theorem dX5_rows_10 : decode cX5_rows 10 = .ok (.invokestatic 85, 3) := by decide +kernel
theorem dX5_rows_13 : decode cX5_rows 13 = .ok (.ifCond .eq 7, 3) := by decide +kernel
theorem dX5_rows_16 : decode cX5_rows 16 = .ok (.iconst 1, 1) := by decide +kernel
theorem dX5_rows_17 : decode cX5_rows 17 = .ok (.goto 4, 3) := by decide +kernel
theorem dX5_rows_20 : decode cX5_rows 20 = .ok (.iconst 0, 1) := by decide +kernel
theorem dX5_rows_21 : decode cX5_rows 21 = .ok (.istore_n 3, 1) := by decide +kernel
theorem dX5_rows_22 : decode cX5_rows 22 = .ok (.aload_n 0, 1) := by decide +kernel
theorem dX5_rows_23 : decode cX5_rows 23 = .ok (.iload_n 3, 1) := by decide +kernel
theorem dX5_rows_24 : decode cX5_rows 24 = .ok (.ifCond .eq 19, 3) := by decide +kernel
theorem dX5_rows_27 : decode cX5_rows 27 = .ok (.aload_n 0, 1) := by decide +kernel
theorem dX5_rows_28 : decode cX5_rows 28 = .ok (.getfield 33, 3) := by decide +kernel
theorem dX5_rows_31 : decode cX5_rows 31 = .ok (.aload_n 0, 1) := by decide +kernel
theorem dX5_rows_32 : decode cX5_rows 32 = .ok (.getfield 12, 3) := by decide +kernel
theorem dX5_rows_35 : decode cX5_rows 35 = .ok (.iload_n 1, 1) := by decide +kernel
theorem dX5_rows_36 : decode cX5_rows 36 = .ok (.iload_n 2, 1) := by decide +kernel
theorem dX5_rows_37 : decode cX5_rows 37 = .ok (.invokevirtual 109, 3) := by decide +kernel
theorem dX5_rows_40 : decode cX5_rows 40 = .ok (.goto 5, 3) := by decide +kernel
theorem dX5_rows_43 : decode cX5_rows 43 = .ok (.bipush (-2), 2) := by decide +kernel
theorem dX5_rows_45 : decode cX5_rows 45 = .ok (.invokevirtual 82, 3) := by decide +kernel
theorem dX5_rows_48 : decode cX5_rows 48 = .ok (.ireturn, 1) := by decide +kernel
theorem dX5_plans_0 : decode cX5_plans 0 = .ok (.aload_n 0, 1) := by decide +kernel
theorem dX5_plans_1 : decode cX5_plans 1 = .ok (.getfield 19, 3) := by decide +kernel
theorem dX5_plans_4 : decode cX5_plans 4 = .ok (.aload_n 0, 1) := by decide +kernel
theorem dX5_plans_5 : decode cX5_plans 5 = .ok (.getfield 12, 3) := by decide +kernel
theorem dX5_plans_8 : decode cX5_plans 8 = .ok (.invokevirtual 41, 3) := by decide +kernel
theorem dX5_plans_11 : decode cX5_plans 11 = .ok (.aload_n 0, 1) := by decide +kernel
theorem dX5_plans_12 : decode cX5_plans 12 = .ok (.aload_n 0, 1) := by decide +kernel
theorem dX5_plans_13 : decode cX5_plans 13 = .ok (.getfield 12, 3) := by decide +kernel
theorem dX5_plans_16 : decode cX5_plans 16 = .ok (.iload_n 1, 1) := by decide +kernel
theorem dX5_plans_17 : decode cX5_plans 17 = .ok (.invokevirtual 113, 3) := by decide +kernel
theorem dX5_plans_20 : decode cX5_plans 20 = .ok (.invokevirtual 49, 3) := by decide +kernel
theorem dX5_plans_23 : decode cX5_plans 23 = .ok (.ireturn, 1) := by decide +kernel
theorem dX5_scraps_0 : decode cX5_scraps 0 = .ok (.aload_n 0, 1) := by decide +kernel
theorem dX5_scraps_1 : decode cX5_scraps 1 = .ok (.getfield 19, 3) := by decide +kernel
theorem dX5_scraps_4 : decode cX5_scraps 4 = .ok (.aload_n 0, 1) := by decide +kernel
theorem dX5_scraps_5 : decode cX5_scraps 5 = .ok (.getfield 12, 3) := by decide +kernel
theorem dX5_scraps_8 : decode cX5_scraps 8 = .ok (.invokevirtual 41, 3) := by decide +kernel
theorem dX5_scraps_11 : decode cX5_scraps 11 = .ok (.aload_n 0, 1) := by decide +kernel
theorem dX5_scraps_12 : decode cX5_scraps 12 = .ok (.aload_n 0, 1) := by decide +kernel
theorem dX5_scraps_13 : decode cX5_scraps 13 = .ok (.getfield 12, 3) := by decide +kernel
theorem dX5_scraps_16 : decode cX5_scraps 16 = .ok (.invokevirtual 116, 3) := by decide +kernel
theorem dX5_scraps_19 : decode cX5_scraps 19 = .ok (.invokevirtual 49, 3) := by decide +kernel
theorem dX5_scraps_22 : decode cX5_scraps 22 = .ok (.ireturn, 1) := by decide +kernel
theorem dX5_judges_0 : decode cX5_judges 0 = .ok (.aload_n 0, 1) := by decide +kernel
theorem dX5_judges_1 : decode cX5_judges 1 = .ok (.getfield 12, 3) := by decide +kernel
theorem dX5_judges_4 : decode cX5_judges 4 = .ok (.invokevirtual 119, 3) := by decide +kernel
theorem dX5_judges_7 : decode cX5_judges 7 = .ok (.ireturn, 1) := by decide +kernel
theorem dX5_planned_0 : decode cX5_planned 0 = .ok (.aload_n 0, 1) := by decide +kernel
theorem dX5_planned_1 : decode cX5_planned 1 = .ok (.aload_n 0, 1) := by decide +kernel
theorem dX5_planned_2 : decode cX5_planned 2 = .ok (.getfield 12, 3) := by decide +kernel
theorem dX5_planned_5 : decode cX5_planned 5 = .ok (.iload_n 1, 1) := by decide +kernel
theorem dX5_planned_6 : decode cX5_planned 6 = .ok (.iload_n 2, 1) := by decide +kernel
theorem dX5_planned_7 : decode cX5_planned 7 = .ok (.invokevirtual 122, 3) := by decide +kernel
theorem dX5_planned_10 : decode cX5_planned 10 = .ok (.invokevirtual 82, 3) := by decide +kernel
theorem dX5_planned_13 : decode cX5_planned 13 = .ok (.ireturn, 1) := by decide +kernel
theorem dX5_count_0 : decode cX5_count 0 = .ok (.aload_n 0, 1) := by decide +kernel
theorem dX5_count_1 : decode cX5_count 1 = .ok (.aload_n 0, 1) := by decide +kernel
theorem dX5_count_2 : decode cX5_count 2 = .ok (.getfield 12, 3) := by decide +kernel
theorem dX5_count_5 : decode cX5_count 5 = .ok (.iload_n 1, 1) := by decide +kernel
theorem dX5_count_6 : decode cX5_count 6 = .ok (.invokevirtual 125, 3) := by decide +kernel
theorem dX5_count_9 : decode cX5_count 9 = .ok (.invokevirtual 82, 3) := by decide +kernel
theorem dX5_count_12 : decode cX5_count 12 = .ok (.ireturn, 1) := by decide +kernel
theorem dX5_type_0 : decode cX5_type 0 = .ok (.aload_n 0, 1) := by decide +kernel
theorem dX5_type_1 : decode cX5_type 1 = .ok (.aload_n 0, 1) := by decide +kernel
theorem dX5_type_2 : decode cX5_type 2 = .ok (.getfield 26, 3) := by decide +kernel
theorem dX5_type_5 : decode cX5_type 5 = .ok (.iload_n 1, 1) := by decide +kernel
theorem dX5_type_6 : decode cX5_type 6 = .ok (.invokevirtual 128, 3) := by decide +kernel
theorem dX5_type_9 : decode cX5_type 9 = .ok (.invokevirtual 82, 3) := by decide +kernel
theorem dX5_type_12 : decode cX5_type 12 = .ok (.ireturn, 1) := by decide +kernel
theorem dX5_clear_0 : decode cX5_clear 0 = .ok (.aload_n 0, 1) := by decide +kernel
theorem dX5_clear_1 : decode cX5_clear 1 = .ok (.getfield 26, 3) := by decide +kernel
theorem dX5_clear_4 : decode cX5_clear 4 = .ok (.invokevirtual 131, 3) := by decide +kernel
theorem dX5_clear_7 : decode cX5_clear 7 = .ok (.ireturn, 1) := by decide +kernel
theorem dX5_does_0 : decode cX5_does 0 = .ok (.aload_n 0, 1) := by decide +kernel
theorem dX5_does_1 : decode cX5_does 1 = .ok (.getfield 26, 3) := by decide +kernel
theorem dX5_does_4 : decode cX5_does 4 = .ok (.invokevirtual 134, 3) := by decide +kernel
theorem dX5_does_7 : decode cX5_does 7 = .ok (.istore_n 1, 1) := by decide +kernel
theorem dX5_does_8 : decode cX5_does 8 = .ok (.iload_n 1, 1) := by decide +kernel
theorem dX5_does_9 : decode cX5_does 9 = .ok (.iconst (-1), 1) := by decide +kernel
theorem dX5_does_10 : decode cX5_does 10 = .ok (.if_icmp .eq 8, 3) := by decide +kernel
theorem dX5_does_13 : decode cX5_does 13 = .ok (.bipush (-10), 2) := by decide +kernel
theorem dX5_does_15 : decode cX5_does 15 = .ok (.iload_n 1, 1) := by decide +kernel
theorem dX5_does_16 : decode cX5_does 16 = .ok (.isub, 1) := by decide +kernel
theorem dX5_does_17 : decode cX5_does 17 = .ok (.ireturn, 1) := by decide +kernel
theorem dX5_does_18 : decode cX5_does 18 = .ok (.aload_n 0, 1) := by decide +kernel
theorem dX5_does_19 : decode cX5_does 19 = .ok (.getfield 19, 3) := by decide +kernel
theorem dX5_does_22 : decode cX5_does 22 = .ok (.aload_n 0, 1) := by decide +kernel
theorem dX5_does_23 : decode cX5_does 23 = .ok (.getfield 12, 3) := by decide +kernel
theorem dX5_does_26 : decode cX5_does 26 = .ok (.invokevirtual 41, 3) := by decide +kernel
theorem dX5_does_29 : decode cX5_does 29 = .ok (.aload_n 0, 1) := by decide +kernel
theorem dX5_does_30 : decode cX5_does 30 = .ok (.getfield 26, 3) := by decide +kernel
theorem dX5_does_33 : decode cX5_does 33 = .ok (.invokevirtual 137, 3) := by decide +kernel
theorem dX5_does_36 : decode cX5_does 36 = .ok (.iconst 0, 1) := by decide +kernel
theorem dX5_does_37 : decode cX5_does 37 = .ok (.istore_n 2, 1) := by decide +kernel
theorem dX5_does_38 : decode cX5_does 38 = .ok (.iload_n 2, 1) := by decide +kernel
theorem dX5_does_39 : decode cX5_does 39 = .ok (.bipush 120, 2) := by decide +kernel
theorem dX5_does_41 : decode cX5_does 41 = .ok (.if_icmp .ge 53, 3) := by decide +kernel
theorem dX5_does_44 : decode cX5_does 44 = .ok (.aload_n 0, 1) := by decide +kernel
theorem dX5_does_45 : decode cX5_does 45 = .ok (.getfield 26, 3) := by decide +kernel
theorem dX5_does_48 : decode cX5_does 48 = .ok (.invokevirtual 140, 3) := by decide +kernel
theorem dX5_does_51 : decode cX5_does 51 = .ok (.ifCond .eq 43, 3) := by decide +kernel
theorem dX5_does_54 : decode cX5_does 54 = .ok (.aload_n 0, 1) := by decide +kernel
theorem dX5_does_55 : decode cX5_does 55 = .ok (.getfield 26, 3) := by decide +kernel
theorem dX5_does_58 : decode cX5_does 58 = .ok (.invokevirtual 144, 3) := by decide +kernel
theorem dX5_does_61 : decode cX5_does 61 = .ok (.ifCond .eq 10, 3) := by decide +kernel
theorem dX5_does_64 : decode cX5_does 64 = .ok (.aload_n 0, 1) := by decide +kernel
theorem dX5_does_65 : decode cX5_does 65 = .ok (.invokevirtual 147, 3) := by decide +kernel
theorem dX5_does_68 : decode cX5_does 68 = .ok (.ifCond .ge 20, 3) := by decide +kernel
theorem dX5_does_71 : decode cX5_does 71 = .ok (.aload_n 0, 1) := by decide +kernel
theorem dX5_does_72 : decode cX5_does 72 = .ok (.getfield 19, 3) := by decide +kernel
theorem dX5_does_75 : decode cX5_does 75 = .ok (.aload_n 0, 1) := by decide +kernel
theorem dX5_does_76 : decode cX5_does 76 = .ok (.getfield 12, 3) := by decide +kernel
theorem dX5_does_79 : decode cX5_does 79 = .ok (.invokevirtual 150, 3) := by decide +kernel
theorem dX5_does_82 : decode cX5_does 82 = .ok (.sipush (-1000), 3) := by decide +kernel
theorem dX5_does_85 : decode cX5_does 85 = .ok (.iload_n 2, 1) := by decide +kernel
theorem dX5_does_86 : decode cX5_does 86 = .ok (.isub, 1) := by decide +kernel
theorem dX5_does_87 : decode cX5_does 87 = .ok (.ireturn, 1) := by decide +kernel
theorem dX5_does_88 : decode cX5_does 88 = .ok (.iinc 2 1, 3) := by decide +kernel
theorem dX5_does_91 : decode cX5_does 91 = .ok (.goto (-53), 3) := by decide +kernel
theorem dX5_does_94 : decode cX5_does 94 = .ok (.aload_n 0, 1) := by decide +kernel
theorem dX5_does_95 : decode cX5_does 95 = .ok (.getfield 19, 3) := by decide +kernel
theorem dX5_does_98 : decode cX5_does 98 = .ok (.invokevirtual 153, 3) := by decide +kernel
theorem dX5_does_101 : decode cX5_does 101 = .ok (.iload_n 2, 1) := by decide +kernel
theorem dX5_does_102 : decode cX5_does 102 = .ok (.ireturn, 1) := by decide +kernel
theorem dX5_back_0 : decode cX5_back 0 = .ok (.aload_n 0, 1) := by decide +kernel
theorem dX5_back_1 : decode cX5_back 1 = .ok (.aload_n 0, 1) := by decide +kernel
theorem dX5_back_2 : decode cX5_back 2 = .ok (.getfield 19, 3) := by decide +kernel
theorem dX5_back_5 : decode cX5_back 5 = .ok (.aload_n 0, 1) := by decide +kernel
theorem dX5_back_6 : decode cX5_back 6 = .ok (.getfield 12, 3) := by decide +kernel
theorem dX5_back_9 : decode cX5_back 9 = .ok (.invokevirtual 156, 3) := by decide +kernel
theorem dX5_back_12 : decode cX5_back 12 = .ok (.invokevirtual 82, 3) := by decide +kernel
theorem dX5_back_15 : decode cX5_back 15 = .ok (.ireturn, 1) := by decide +kernel
theorem dX5_told_0 : decode cX5_told 0 = .ok (.iload_n 1, 1) := by decide +kernel
theorem dX5_told_1 : decode cX5_told 1 = .ok (.tableswitch 58 0 4 #[35, 35, 35, 42, 50], 35) := by decide +kernel
theorem dX5_told_36 : decode cX5_told 36 = .ok (.aload_n 0, 1) := by decide +kernel
theorem dX5_told_37 : decode cX5_told 37 = .ok (.getfield 37, 3) := by decide +kernel
theorem dX5_told_40 : decode cX5_told 40 = .ok (.iload_n 1, 1) := by decide +kernel
theorem dX5_told_41 : decode cX5_told 41 = .ok (.iaload, 1) := by decide +kernel
theorem dX5_told_42 : decode cX5_told 42 = .ok (.ireturn, 1) := by decide +kernel
theorem dX5_told_43 : decode cX5_told 43 = .ok (.aload_n 0, 1) := by decide +kernel
theorem dX5_told_44 : decode cX5_told 44 = .ok (.getfield 26, 3) := by decide +kernel
theorem dX5_told_47 : decode cX5_told 47 = .ok (.getfield 160, 3) := by decide +kernel
theorem dX5_told_50 : decode cX5_told 50 = .ok (.ireturn, 1) := by decide +kernel
theorem dX5_told_51 : decode cX5_told 51 = .ok (.aload_n 0, 1) := by decide +kernel
theorem dX5_told_52 : decode cX5_told 52 = .ok (.getfield 19, 3) := by decide +kernel
theorem dX5_told_55 : decode cX5_told 55 = .ok (.getfield 164, 3) := by decide +kernel
theorem dX5_told_58 : decode cX5_told 58 = .ok (.ireturn, 1) := by decide +kernel
theorem dX5_told_59 : decode cX5_told 59 = .ok (.aload_n 0, 1) := by decide +kernel
theorem dX5_told_60 : decode cX5_told 60 = .ok (.bipush (-2), 2) := by decide +kernel
theorem dX5_told_62 : decode cX5_told 62 = .ok (.invokevirtual 82, 3) := by decide +kernel
theorem dX5_told_65 : decode cX5_told 65 = .ok (.ireturn, 1) := by decide +kernel
theorem dX5_digest_0 : decode cX5_digest 0 = .ok (.ldc2_w 167, 3) := by decide +kernel
theorem dX5_digest_3 : decode cX5_digest 3 = .ok (.lstore_n 1, 1) := by decide +kernel
theorem dX5_digest_4 : decode cX5_digest 4 = .ok (.iconst 0, 1) := by decide +kernel
theorem dX5_digest_5 : decode cX5_digest 5 = .ok (.istore_n 3, 1) := by decide +kernel
theorem dX5_digest_6 : decode cX5_digest 6 = .ok (.iload_n 3, 1) := by decide +kernel
theorem dX5_digest_7 : decode cX5_digest 7 = .ok (.iconst 5, 1) := by decide +kernel
theorem dX5_digest_8 : decode cX5_digest 8 = .ok (.if_icmp .ge 19, 3) := by decide +kernel
theorem dX5_digest_11 : decode cX5_digest 11 = .ok (.lload_n 1, 1) := by decide +kernel
theorem dX5_digest_12 : decode cX5_digest 12 = .ok (.aload_n 0, 1) := by decide +kernel
theorem dX5_digest_13 : decode cX5_digest 13 = .ok (.iload_n 3, 1) := by decide +kernel
theorem dX5_digest_14 : decode cX5_digest 14 = .ok (.invokevirtual 169, 3) := by decide +kernel
theorem dX5_digest_17 : decode cX5_digest 17 = .ok (.invokestatic 172, 3) := by decide +kernel
theorem dX5_digest_20 : decode cX5_digest 20 = .ok (.lstore_n 1, 1) := by decide +kernel
theorem dX5_digest_21 : decode cX5_digest 21 = .ok (.iinc 3 1, 3) := by decide +kernel
theorem dX5_digest_24 : decode cX5_digest 24 = .ok (.goto (-18), 3) := by decide +kernel
theorem dX5_digest_27 : decode cX5_digest 27 = .ok (.iconst 0, 1) := by decide +kernel
theorem dX5_digest_28 : decode cX5_digest 28 = .ok (.istore_n 3, 1) := by decide +kernel
theorem dX5_digest_29 : decode cX5_digest 29 = .ok (.iload_n 3, 1) := by decide +kernel
theorem dX5_digest_30 : decode cX5_digest 30 = .ok (.bipush 7, 2) := by decide +kernel
theorem dX5_digest_32 : decode cX5_digest 32 = .ok (.if_icmp .ge 22, 3) := by decide +kernel
theorem dX5_digest_35 : decode cX5_digest 35 = .ok (.lload_n 1, 1) := by decide +kernel
theorem dX5_digest_36 : decode cX5_digest 36 = .ok (.aload_n 0, 1) := by decide +kernel
theorem dX5_digest_37 : decode cX5_digest 37 = .ok (.getfield 12, 3) := by decide +kernel
theorem dX5_digest_40 : decode cX5_digest 40 = .ok (.iload_n 3, 1) := by decide +kernel
theorem dX5_digest_41 : decode cX5_digest 41 = .ok (.invokevirtual 125, 3) := by decide +kernel
theorem dX5_digest_44 : decode cX5_digest 44 = .ok (.invokestatic 172, 3) := by decide +kernel
theorem dX5_digest_47 : decode cX5_digest 47 = .ok (.lstore_n 1, 1) := by decide +kernel
theorem dX5_digest_48 : decode cX5_digest 48 = .ok (.iinc 3 1, 3) := by decide +kernel
theorem dX5_digest_51 : decode cX5_digest 51 = .ok (.goto (-22), 3) := by decide +kernel
theorem dX5_digest_54 : decode cX5_digest 54 = .ok (.iconst 0, 1) := by decide +kernel
theorem dX5_digest_55 : decode cX5_digest 55 = .ok (.istore_n 3, 1) := by decide +kernel
theorem dX5_digest_56 : decode cX5_digest 56 = .ok (.iload_n 3, 1) := by decide +kernel
theorem dX5_digest_57 : decode cX5_digest 57 = .ok (.aload_n 0, 1) := by decide +kernel
theorem dX5_digest_58 : decode cX5_digest 58 = .ok (.getfield 12, 3) := by decide +kernel
theorem dX5_digest_61 : decode cX5_digest 61 = .ok (.getfield 176, 3) := by decide +kernel
theorem dX5_digest_64 : decode cX5_digest 64 = .ok (.if_icmp .ge 40, 3) := by decide +kernel
theorem dX5_digest_67 : decode cX5_digest 67 = .ok (.iconst 0, 1) := by decide +kernel
theorem dX5_digest_68 : decode cX5_digest 68 = .ok (.istore 4, 2) := by decide +kernel
theorem dX5_digest_70 : decode cX5_digest 70 = .ok (.iload 4, 2) := by decide +kernel
theorem dX5_digest_72 : decode cX5_digest 72 = .ok (.bipush 7, 2) := by decide +kernel
theorem dX5_digest_74 : decode cX5_digest 74 = .ok (.if_icmp .ge 24, 3) := by decide +kernel
theorem dX5_digest_77 : decode cX5_digest 77 = .ok (.lload_n 1, 1) := by decide +kernel
theorem dX5_digest_78 : decode cX5_digest 78 = .ok (.aload_n 0, 1) := by decide +kernel
theorem dX5_digest_79 : decode cX5_digest 79 = .ok (.getfield 12, 3) := by decide +kernel
theorem dX5_digest_82 : decode cX5_digest 82 = .ok (.iload_n 3, 1) := by decide +kernel
theorem dX5_digest_83 : decode cX5_digest 83 = .ok (.iload 4, 2) := by decide +kernel
theorem dX5_digest_85 : decode cX5_digest 85 = .ok (.invokevirtual 79, 3) := by decide +kernel
theorem dX5_digest_88 : decode cX5_digest 88 = .ok (.invokestatic 172, 3) := by decide +kernel
theorem dX5_digest_91 : decode cX5_digest 91 = .ok (.lstore_n 1, 1) := by decide +kernel
theorem dX5_digest_92 : decode cX5_digest 92 = .ok (.iinc 4 1, 3) := by decide +kernel
theorem dX5_digest_95 : decode cX5_digest 95 = .ok (.goto (-25), 3) := by decide +kernel
theorem dX5_digest_98 : decode cX5_digest 98 = .ok (.iinc 3 1, 3) := by decide +kernel
theorem dX5_digest_101 : decode cX5_digest 101 = .ok (.goto (-45), 3) := by decide +kernel
theorem dX5_digest_104 : decode cX5_digest 104 = .ok (.iconst 0, 1) := by decide +kernel
theorem dX5_digest_105 : decode cX5_digest 105 = .ok (.istore_n 3, 1) := by decide +kernel
theorem dX5_digest_106 : decode cX5_digest 106 = .ok (.iload_n 3, 1) := by decide +kernel
theorem dX5_digest_107 : decode cX5_digest 107 = .ok (.aload_n 0, 1) := by decide +kernel
theorem dX5_digest_108 : decode cX5_digest 108 = .ok (.getfield 12, 3) := by decide +kernel
theorem dX5_digest_111 : decode cX5_digest 111 = .ok (.getfield 179, 3) := by decide +kernel
theorem dX5_digest_114 : decode cX5_digest 114 = .ok (.if_icmp .ge 16, 3) := by decide +kernel
theorem dX5_digest_117 : decode cX5_digest 117 = .ok (.aload_n 0, 1) := by decide +kernel
theorem dX5_digest_118 : decode cX5_digest 118 = .ok (.lload_n 1, 1) := by decide +kernel
theorem dX5_digest_119 : decode cX5_digest 119 = .ok (.iload_n 3, 1) := by decide +kernel
theorem dX5_digest_120 : decode cX5_digest 120 = .ok (.invokevirtual 182, 3) := by decide +kernel
theorem dX5_digest_123 : decode cX5_digest 123 = .ok (.lstore_n 1, 1) := by decide +kernel
theorem dX5_digest_124 : decode cX5_digest 124 = .ok (.iinc 3 1, 3) := by decide +kernel
theorem dX5_digest_127 : decode cX5_digest 127 = .ok (.goto (-21), 3) := by decide +kernel
theorem dX5_digest_130 : decode cX5_digest 130 = .ok (.iconst 0, 1) := by decide +kernel
theorem dX5_digest_131 : decode cX5_digest 131 = .ok (.istore_n 3, 1) := by decide +kernel
theorem dX5_digest_132 : decode cX5_digest 132 = .ok (.iload_n 3, 1) := by decide +kernel
theorem dX5_digest_133 : decode cX5_digest 133 = .ok (.aload_n 0, 1) := by decide +kernel
theorem dX5_digest_134 : decode cX5_digest 134 = .ok (.getfield 12, 3) := by decide +kernel
theorem dX5_digest_137 : decode cX5_digest 137 = .ok (.getfield 185, 3) := by decide +kernel
theorem dX5_digest_140 : decode cX5_digest 140 = .ok (.if_icmp .ge 23, 3) := by decide +kernel
theorem dX5_digest_143 : decode cX5_digest 143 = .ok (.lload_n 1, 1) := by decide +kernel
theorem dX5_digest_144 : decode cX5_digest 144 = .ok (.aload_n 0, 1) := by decide +kernel
theorem dX5_digest_145 : decode cX5_digest 145 = .ok (.getfield 12, 3) := by decide +kernel
theorem dX5_digest_148 : decode cX5_digest 148 = .ok (.getfield 188, 3) := by decide +kernel
theorem dX5_digest_151 : decode cX5_digest 151 = .ok (.iload_n 3, 1) := by decide +kernel
theorem dX5_digest_152 : decode cX5_digest 152 = .ok (.iaload, 1) := by decide +kernel
theorem dX5_digest_153 : decode cX5_digest 153 = .ok (.invokestatic 172, 3) := by decide +kernel
theorem dX5_digest_156 : decode cX5_digest 156 = .ok (.lstore_n 1, 1) := by decide +kernel
theorem dX5_digest_157 : decode cX5_digest 157 = .ok (.iinc 3 1, 3) := by decide +kernel
theorem dX5_digest_160 : decode cX5_digest 160 = .ok (.goto (-28), 3) := by decide +kernel
theorem dX5_digest_163 : decode cX5_digest 163 = .ok (.lload_n 1, 1) := by decide +kernel
theorem dX5_digest_164 : decode cX5_digest 164 = .ok (.lreturn, 1) := by decide +kernel
theorem dX5_mixedWithCall_0 : decode cX5_mixedWithCall 0 = .ok (.lload_n 1, 1) := by decide +kernel
theorem dX5_mixedWithCall_1 : decode cX5_mixedWithCall 1 = .ok (.lstore 4, 2) := by decide +kernel
theorem dX5_mixedWithCall_3 : decode cX5_mixedWithCall 3 = .ok (.iconst 0, 1) := by decide +kernel
theorem dX5_mixedWithCall_4 : decode cX5_mixedWithCall 4 = .ok (.istore 6, 2) := by decide +kernel
theorem dX5_mixedWithCall_6 : decode cX5_mixedWithCall 6 = .ok (.iload 6, 2) := by decide +kernel
theorem dX5_mixedWithCall_8 : decode cX5_mixedWithCall 8 = .ok (.bipush 12, 2) := by decide +kernel
theorem dX5_mixedWithCall_10 : decode cX5_mixedWithCall 10 = .ok (.if_icmp .ge 43, 3) := by decide +kernel
theorem dX5_mixedWithCall_13 : decode cX5_mixedWithCall 13 = .ok (.iconst 0, 1) := by decide +kernel
theorem dX5_mixedWithCall_14 : decode cX5_mixedWithCall 14 = .ok (.istore 7, 2) := by decide +kernel
theorem dX5_mixedWithCall_16 : decode cX5_mixedWithCall 16 = .ok (.iload 7, 2) := by decide +kernel
theorem dX5_mixedWithCall_18 : decode cX5_mixedWithCall 18 = .ok (.iconst 3, 1) := by decide +kernel
theorem dX5_mixedWithCall_19 : decode cX5_mixedWithCall 19 = .ok (.if_icmp .ge 28, 3) := by decide +kernel
theorem dX5_mixedWithCall_22 : decode cX5_mixedWithCall 22 = .ok (.lload 4, 2) := by decide +kernel
theorem dX5_mixedWithCall_24 : decode cX5_mixedWithCall 24 = .ok (.aload_n 0, 1) := by decide +kernel
theorem dX5_mixedWithCall_25 : decode cX5_mixedWithCall 25 = .ok (.getfield 12, 3) := by decide +kernel
theorem dX5_mixedWithCall_28 : decode cX5_mixedWithCall 28 = .ok (.iload_n 3, 1) := by decide +kernel
theorem dX5_mixedWithCall_29 : decode cX5_mixedWithCall 29 = .ok (.iload 6, 2) := by decide +kernel
theorem dX5_mixedWithCall_31 : decode cX5_mixedWithCall 31 = .ok (.iload 7, 2) := by decide +kernel
theorem dX5_mixedWithCall_33 : decode cX5_mixedWithCall 33 = .ok (.invokevirtual 92, 3) := by decide +kernel
theorem dX5_mixedWithCall_36 : decode cX5_mixedWithCall 36 = .ok (.invokestatic 172, 3) := by decide +kernel
theorem dX5_mixedWithCall_39 : decode cX5_mixedWithCall 39 = .ok (.lstore 4, 2) := by decide +kernel
theorem dX5_mixedWithCall_41 : decode cX5_mixedWithCall 41 = .ok (.iinc 7 1, 3) := by decide +kernel
theorem dX5_mixedWithCall_44 : decode cX5_mixedWithCall 44 = .ok (.goto (-28), 3) := by decide +kernel
theorem dX5_mixedWithCall_47 : decode cX5_mixedWithCall 47 = .ok (.iinc 6 1, 3) := by decide +kernel
theorem dX5_mixedWithCall_50 : decode cX5_mixedWithCall 50 = .ok (.goto (-44), 3) := by decide +kernel
theorem dX5_mixedWithCall_53 : decode cX5_mixedWithCall 53 = .ok (.iconst 0, 1) := by decide +kernel
theorem dX5_mixedWithCall_54 : decode cX5_mixedWithCall 54 = .ok (.istore 6, 2) := by decide +kernel
theorem dX5_mixedWithCall_56 : decode cX5_mixedWithCall 56 = .ok (.iload 6, 2) := by decide +kernel
theorem dX5_mixedWithCall_58 : decode cX5_mixedWithCall 58 = .ok (.iconst 4, 1) := by decide +kernel
theorem dX5_mixedWithCall_59 : decode cX5_mixedWithCall 59 = .ok (.if_icmp .ge 26, 3) := by decide +kernel
theorem dX5_mixedWithCall_62 : decode cX5_mixedWithCall 62 = .ok (.lload 4, 2) := by decide +kernel
theorem dX5_mixedWithCall_64 : decode cX5_mixedWithCall 64 = .ok (.aload_n 0, 1) := by decide +kernel
theorem dX5_mixedWithCall_65 : decode cX5_mixedWithCall 65 = .ok (.getfield 12, 3) := by decide +kernel
theorem dX5_mixedWithCall_68 : decode cX5_mixedWithCall 68 = .ok (.iload_n 3, 1) := by decide +kernel
theorem dX5_mixedWithCall_69 : decode cX5_mixedWithCall 69 = .ok (.iload 6, 2) := by decide +kernel
theorem dX5_mixedWithCall_71 : decode cX5_mixedWithCall 71 = .ok (.invokevirtual 95, 3) := by decide +kernel
theorem dX5_mixedWithCall_74 : decode cX5_mixedWithCall 74 = .ok (.invokestatic 172, 3) := by decide +kernel
theorem dX5_mixedWithCall_77 : decode cX5_mixedWithCall 77 = .ok (.lstore 4, 2) := by decide +kernel
theorem dX5_mixedWithCall_79 : decode cX5_mixedWithCall 79 = .ok (.iinc 6 1, 3) := by decide +kernel
theorem dX5_mixedWithCall_82 : decode cX5_mixedWithCall 82 = .ok (.goto (-26), 3) := by decide +kernel
theorem dX5_mixedWithCall_85 : decode cX5_mixedWithCall 85 = .ok (.lload 4, 2) := by decide +kernel
theorem dX5_mixedWithCall_87 : decode cX5_mixedWithCall 87 = .ok (.lreturn, 1) := by decide +kernel
theorem dX5_mixed_0 : decode cX5_mixed 0 = .ok (.ldc2_w 191, 3) := by decide +kernel
theorem dX5_mixed_3 : decode cX5_mixed 3 = .ok (.lload_n 0, 1) := by decide +kernel
theorem dX5_mixed_4 : decode cX5_mixed 4 = .ok (.lmul, 1) := by decide +kernel
theorem dX5_mixed_5 : decode cX5_mixed 5 = .ok (.iload_n 2, 1) := by decide +kernel
theorem dX5_mixed_6 : decode cX5_mixed 6 = .ok (.i2l, 1) := by decide +kernel
theorem dX5_mixed_7 : decode cX5_mixed 7 = .ok (.ladd, 1) := by decide +kernel
theorem dX5_mixed_8 : decode cX5_mixed 8 = .ok (.lreturn, 1) := by decide +kernel
theorem dX5_noted_0 : decode cX5_noted 0 = .ok (.iload_n 1, 1) := by decide +kernel
theorem dX5_noted_1 : decode cX5_noted 1 = .ok (.bipush (-2), 2) := by decide +kernel
theorem dX5_noted_3 : decode cX5_noted 3 = .ok (.if_icmp .gt 22, 3) := by decide +kernel
theorem dX5_noted_6 : decode cX5_noted 6 = .ok (.iload_n 1, 1) := by decide +kernel
theorem dX5_noted_7 : decode cX5_noted 7 = .ok (.bipush (-4), 2) := by decide +kernel
theorem dX5_noted_9 : decode cX5_noted 9 = .ok (.if_icmp .lt 16, 3) := by decide +kernel
theorem dX5_noted_12 : decode cX5_noted 12 = .ok (.aload_n 0, 1) := by decide +kernel
theorem dX5_noted_13 : decode cX5_noted 13 = .ok (.getfield 37, 3) := by decide +kernel
theorem dX5_noted_16 : decode cX5_noted 16 = .ok (.bipush (-2), 2) := by decide +kernel
theorem dX5_noted_18 : decode cX5_noted 18 = .ok (.iload_n 1, 1) := by decide +kernel
theorem dX5_noted_19 : decode cX5_noted 19 = .ok (.isub, 1) := by decide +kernel
theorem dX5_noted_20 : decode cX5_noted 20 = .ok (.dup2, 1) := by decide +kernel
theorem dX5_noted_21 : decode cX5_noted 21 = .ok (.iaload, 1) := by decide +kernel
theorem dX5_noted_22 : decode cX5_noted 22 = .ok (.iconst 1, 1) := by decide +kernel
theorem dX5_noted_23 : decode cX5_noted 23 = .ok (.iadd, 1) := by decide +kernel
theorem dX5_noted_24 : decode cX5_noted 24 = .ok (.iastore, 1) := by decide +kernel
theorem dX5_noted_25 : decode cX5_noted 25 = .ok (.iload_n 1, 1) := by decide +kernel
theorem dX5_noted_26 : decode cX5_noted 26 = .ok (.ireturn, 1) := by decide +kernel
theorem dX5_settled_0 : decode cX5_settled 0 = .ok (.iload_n 1, 1) := by decide +kernel
theorem dX5_settled_1 : decode cX5_settled 1 = .ok (.ifCond .lt 10, 3) := by decide +kernel
theorem dX5_settled_4 : decode cX5_settled 4 = .ok (.aload_n 0, 1) := by decide +kernel
theorem dX5_settled_5 : decode cX5_settled 5 = .ok (.getfield 19, 3) := by decide +kernel
theorem dX5_settled_8 : decode cX5_settled 8 = .ok (.invokevirtual 153, 3) := by decide +kernel
theorem dX5_settled_11 : decode cX5_settled 11 = .ok (.aload_n 0, 1) := by decide +kernel
theorem dX5_settled_12 : decode cX5_settled 12 = .ok (.iload_n 1, 1) := by decide +kernel
theorem dX5_settled_13 : decode cX5_settled 13 = .ok (.invokevirtual 82, 3) := by decide +kernel
theorem dX5_settled_16 : decode cX5_settled 16 = .ok (.ireturn, 1) := by decide +kernel
theorem dX5_doOrder_0 : decode cX5_doOrder 0 = .ok (.aload_n 0, 1) := by decide +kernel
theorem dX5_doOrder_1 : decode cX5_doOrder 1 = .ok (.getfield 26, 3) := by decide +kernel
theorem dX5_doOrder_4 : decode cX5_doOrder 4 = .ok (.getfield 193, 3) := by decide +kernel
theorem dX5_doOrder_7 : decode cX5_doOrder 7 = .ok (.astore_n 1, 1) := by decide +kernel
theorem dX5_doOrder_8 : decode cX5_doOrder 8 = .ok (.aload_n 0, 1) := by decide +kernel
theorem dX5_doOrder_9 : decode cX5_doOrder 9 = .ok (.getfield 26, 3) := by decide +kernel
theorem dX5_doOrder_12 : decode cX5_doOrder 12 = .ok (.getfield 196, 3) := by decide +kernel
theorem dX5_doOrder_15 : decode cX5_doOrder 15 = .ok (.tableswitch 178 100 119 #[142, 178, 178, 156, 178, 178, 178, 93, 178, 178, 178, 178, 167, 178, 178, 178, 178, 108, 178, 125], 93) := by decide +kernel
theorem dX5_doOrder_108 : decode cX5_doOrder 108 = .ok (.aload_n 0, 1) := by decide +kernel
theorem dX5_doOrder_109 : decode cX5_doOrder 109 = .ok (.getfield 12, 3) := by decide +kernel
theorem dX5_doOrder_112 : decode cX5_doOrder 112 = .ok (.aload_n 0, 1) := by decide +kernel
theorem dX5_doOrder_113 : decode cX5_doOrder 113 = .ok (.getfield 26, 3) := by decide +kernel
theorem dX5_doOrder_116 : decode cX5_doOrder 116 = .ok (.getfield 199, 3) := by decide +kernel
theorem dX5_doOrder_119 : decode cX5_doOrder 119 = .ok (.invokevirtual 202, 3) := by decide +kernel
theorem dX5_doOrder_122 : decode cX5_doOrder 122 = .ok (.ireturn, 1) := by decide +kernel
theorem dX5_doOrder_123 : decode cX5_doOrder 123 = .ok (.aload_n 0, 1) := by decide +kernel
theorem dX5_doOrder_124 : decode cX5_doOrder 124 = .ok (.getfield 12, 3) := by decide +kernel
theorem dX5_doOrder_127 : decode cX5_doOrder 127 = .ok (.aload_n 1, 1) := by decide +kernel
theorem dX5_doOrder_128 : decode cX5_doOrder 128 = .ok (.iconst 0, 1) := by decide +kernel
theorem dX5_doOrder_129 : decode cX5_doOrder 129 = .ok (.iaload, 1) := by decide +kernel
theorem dX5_doOrder_130 : decode cX5_doOrder 130 = .ok (.aload_n 1, 1) := by decide +kernel
theorem dX5_doOrder_131 : decode cX5_doOrder 131 = .ok (.iconst 1, 1) := by decide +kernel
theorem dX5_doOrder_132 : decode cX5_doOrder 132 = .ok (.iaload, 1) := by decide +kernel
theorem dX5_doOrder_133 : decode cX5_doOrder 133 = .ok (.aload_n 1, 1) := by decide +kernel
theorem dX5_doOrder_134 : decode cX5_doOrder 134 = .ok (.iconst 2, 1) := by decide +kernel
theorem dX5_doOrder_135 : decode cX5_doOrder 135 = .ok (.iaload, 1) := by decide +kernel
theorem dX5_doOrder_136 : decode cX5_doOrder 136 = .ok (.invokevirtual 61, 3) := by decide +kernel
theorem dX5_doOrder_139 : decode cX5_doOrder 139 = .ok (.ireturn, 1) := by decide +kernel
theorem dX5_doOrder_140 : decode cX5_doOrder 140 = .ok (.aload_n 0, 1) := by decide +kernel
theorem dX5_doOrder_141 : decode cX5_doOrder 141 = .ok (.getfield 12, 3) := by decide +kernel
theorem dX5_doOrder_144 : decode cX5_doOrder 144 = .ok (.aload_n 1, 1) := by decide +kernel
theorem dX5_doOrder_145 : decode cX5_doOrder 145 = .ok (.iconst 0, 1) := by decide +kernel
theorem dX5_doOrder_146 : decode cX5_doOrder 146 = .ok (.iaload, 1) := by decide +kernel
theorem dX5_doOrder_147 : decode cX5_doOrder 147 = .ok (.aload_n 1, 1) := by decide +kernel
theorem dX5_doOrder_148 : decode cX5_doOrder 148 = .ok (.iconst 1, 1) := by decide +kernel
theorem dX5_doOrder_149 : decode cX5_doOrder 149 = .ok (.iaload, 1) := by decide +kernel
theorem dX5_doOrder_150 : decode cX5_doOrder 150 = .ok (.aload_n 1, 1) := by decide +kernel
theorem dX5_doOrder_151 : decode cX5_doOrder 151 = .ok (.iconst 2, 1) := by decide +kernel
theorem dX5_doOrder_152 : decode cX5_doOrder 152 = .ok (.iaload, 1) := by decide +kernel
theorem dX5_doOrder_153 : decode cX5_doOrder 153 = .ok (.invokevirtual 64, 3) := by decide +kernel
theorem dX5_doOrder_156 : decode cX5_doOrder 156 = .ok (.ireturn, 1) := by decide +kernel
theorem dX5_doOrder_157 : decode cX5_doOrder 157 = .ok (.aload_n 0, 1) := by decide +kernel
theorem dX5_doOrder_158 : decode cX5_doOrder 158 = .ok (.getfield 12, 3) := by decide +kernel
theorem dX5_doOrder_161 : decode cX5_doOrder 161 = .ok (.aload_n 1, 1) := by decide +kernel
theorem dX5_doOrder_162 : decode cX5_doOrder 162 = .ok (.iconst 0, 1) := by decide +kernel
theorem dX5_doOrder_163 : decode cX5_doOrder 163 = .ok (.iaload, 1) := by decide +kernel
theorem dX5_doOrder_164 : decode cX5_doOrder 164 = .ok (.aload_n 1, 1) := by decide +kernel
theorem dX5_doOrder_165 : decode cX5_doOrder 165 = .ok (.iconst 1, 1) := by decide +kernel
theorem dX5_doOrder_166 : decode cX5_doOrder 166 = .ok (.iaload, 1) := by decide +kernel
theorem dX5_doOrder_167 : decode cX5_doOrder 167 = .ok (.invokevirtual 45, 3) := by decide +kernel
theorem dX5_doOrder_170 : decode cX5_doOrder 170 = .ok (.ireturn, 1) := by decide +kernel
theorem dX5_doOrder_171 : decode cX5_doOrder 171 = .ok (.aload_n 0, 1) := by decide +kernel
theorem dX5_doOrder_172 : decode cX5_doOrder 172 = .ok (.getfield 12, 3) := by decide +kernel
theorem dX5_doOrder_175 : decode cX5_doOrder 175 = .ok (.aload_n 1, 1) := by decide +kernel
theorem dX5_doOrder_176 : decode cX5_doOrder 176 = .ok (.iconst 0, 1) := by decide +kernel
theorem dX5_doOrder_177 : decode cX5_doOrder 177 = .ok (.iaload, 1) := by decide +kernel
theorem dX5_doOrder_178 : decode cX5_doOrder 178 = .ok (.invokevirtual 73, 3) := by decide +kernel
theorem dX5_doOrder_181 : decode cX5_doOrder 181 = .ok (.ireturn, 1) := by decide +kernel
theorem dX5_doOrder_182 : decode cX5_doOrder 182 = .ok (.aload_n 0, 1) := by decide +kernel
theorem dX5_doOrder_183 : decode cX5_doOrder 183 = .ok (.getfield 12, 3) := by decide +kernel
theorem dX5_doOrder_186 : decode cX5_doOrder 186 = .ok (.aload_n 1, 1) := by decide +kernel
theorem dX5_doOrder_187 : decode cX5_doOrder 187 = .ok (.iconst 0, 1) := by decide +kernel
theorem dX5_doOrder_188 : decode cX5_doOrder 188 = .ok (.iaload, 1) := by decide +kernel
theorem dX5_doOrder_189 : decode cX5_doOrder 189 = .ok (.invokevirtual 113, 3) := by decide +kernel
theorem dX5_doOrder_192 : decode cX5_doOrder 192 = .ok (.ireturn, 1) := by decide +kernel
theorem dX5_doOrder_193 : decode cX5_doOrder 193 = .ok (.bipush (-2), 2) := by decide +kernel
theorem dX5_doOrder_195 : decode cX5_doOrder 195 = .ok (.ireturn, 1) := by decide +kernel
theorem dX5_isBelow_0 : decode cX5_isBelow 0 = .ok (.iload_n 0, 1) := by decide +kernel
theorem dX5_isBelow_1 : decode cX5_isBelow 1 = .ok (.ifCond .lt 12, 3) := by decide +kernel
theorem dX5_isBelow_4 : decode cX5_isBelow 4 = .ok (.iload_n 0, 1) := by decide +kernel
theorem dX5_isBelow_5 : decode cX5_isBelow 5 = .ok (.iload_n 1, 1) := by decide +kernel
theorem dX5_isBelow_6 : decode cX5_isBelow 6 = .ok (.if_icmp .ge 7, 3) := by decide +kernel
theorem dX5_isBelow_9 : decode cX5_isBelow 9 = .ok (.iconst 1, 1) := by decide +kernel
theorem dX5_isBelow_10 : decode cX5_isBelow 10 = .ok (.goto 4, 3) := by decide +kernel
theorem dX5_isBelow_13 : decode cX5_isBelow 13 = .ok (.iconst 0, 1) := by decide +kernel
theorem dX5_isBelow_14 : decode cX5_isBelow 14 = .ok (.ireturn, 1) := by decide +kernel
theorem dX5_isSearch_0 : decode cX5_isSearch 0 = .ok (.iload_n 0, 1) := by decide +kernel
theorem dX5_isSearch_1 : decode cX5_isSearch 1 = .ok (.iconst 3, 1) := by decide +kernel
theorem dX5_isSearch_2 : decode cX5_isSearch 2 = .ok (.invokestatic 85, 3) := by decide +kernel
theorem dX5_isSearch_5 : decode cX5_isSearch 5 = .ok (.ifCond .eq 26, 3) := by decide +kernel
theorem dX5_isSearch_8 : decode cX5_isSearch 8 = .ok (.iload_n 1, 1) := by decide +kernel
theorem dX5_isSearch_9 : decode cX5_isSearch 9 = .ok (.bipush 6, 2) := by decide +kernel
theorem dX5_isSearch_11 : decode cX5_isSearch 11 = .ok (.invokestatic 85, 3) := by decide +kernel
theorem dX5_isSearch_14 : decode cX5_isSearch 14 = .ok (.ifCond .eq 17, 3) := by decide +kernel
theorem dX5_isSearch_17 : decode cX5_isSearch 17 = .ok (.iload_n 2, 1) := by decide +kernel
theorem dX5_isSearch_18 : decode cX5_isSearch 18 = .ok (.iconst 1, 1) := by decide +kernel
theorem dX5_isSearch_19 : decode cX5_isSearch 19 = .ok (.if_icmp .lt 12, 3) := by decide +kernel
theorem dX5_isSearch_22 : decode cX5_isSearch 22 = .ok (.iload_n 2, 1) := by decide +kernel
theorem dX5_isSearch_23 : decode cX5_isSearch 23 = .ok (.iconst 5, 1) := by decide +kernel
theorem dX5_isSearch_24 : decode cX5_isSearch 24 = .ok (.if_icmp .gt 7, 3) := by decide +kernel
theorem dX5_isSearch_27 : decode cX5_isSearch 27 = .ok (.iconst 1, 1) := by decide +kernel
theorem dX5_isSearch_28 : decode cX5_isSearch 28 = .ok (.goto 4, 3) := by decide +kernel
theorem dX5_isSearch_31 : decode cX5_isSearch 31 = .ok (.iconst 0, 1) := by decide +kernel
theorem dX5_isSearch_32 : decode cX5_isSearch 32 = .ok (.ireturn, 1) := by decide +kernel
theorem dX5_arePaired_0 : decode cX5_arePaired 0 = .ok (.iload_n 0, 1) := by decide +kernel
theorem dX5_arePaired_1 : decode cX5_arePaired 1 = .ok (.iload_n 1, 1) := by decide +kernel
theorem dX5_arePaired_2 : decode cX5_arePaired 2 = .ok (.isub, 1) := by decide +kernel
theorem dX5_arePaired_3 : decode cX5_arePaired 3 = .ok (.invokestatic 206, 3) := by decide +kernel
theorem dX5_arePaired_6 : decode cX5_arePaired 6 = .ok (.iconst 4, 1) := by decide +kernel
theorem dX5_arePaired_7 : decode cX5_arePaired 7 = .ok (.if_icmp .ne 18, 3) := by decide +kernel
theorem dX5_arePaired_10 : decode cX5_arePaired 10 = .ok (.iload_n 0, 1) := by decide +kernel
theorem dX5_arePaired_11 : decode cX5_arePaired 11 = .ok (.bipush 16, 2) := by decide +kernel
theorem dX5_arePaired_13 : decode cX5_arePaired 13 = .ok (.idiv, 1) := by decide +kernel
theorem dX5_arePaired_14 : decode cX5_arePaired 14 = .ok (.iload_n 1, 1) := by decide +kernel
theorem dX5_arePaired_15 : decode cX5_arePaired 15 = .ok (.bipush 16, 2) := by decide +kernel
theorem dX5_arePaired_17 : decode cX5_arePaired 17 = .ok (.idiv, 1) := by decide +kernel
theorem dX5_arePaired_18 : decode cX5_arePaired 18 = .ok (.if_icmp .ne 7, 3) := by decide +kernel
theorem dX5_arePaired_21 : decode cX5_arePaired 21 = .ok (.iconst 1, 1) := by decide +kernel
theorem dX5_arePaired_22 : decode cX5_arePaired 22 = .ok (.goto 4, 3) := by decide +kernel
theorem dX5_arePaired_25 : decode cX5_arePaired 25 = .ok (.iconst 0, 1) := by decide +kernel
theorem dX5_arePaired_26 : decode cX5_arePaired 26 = .ok (.ireturn, 1) := by decide +kernel
theorem dX5_heldSpots_0 : decode cX5_heldSpots 0 = .ok (.iconst 0, 1) := by decide +kernel
theorem dX5_heldSpots_1 : decode cX5_heldSpots 1 = .ok (.istore_n 2, 1) := by decide +kernel
theorem dX5_heldSpots_2 : decode cX5_heldSpots 2 = .ok (.iconst 0, 1) := by decide +kernel
theorem dX5_heldSpots_3 : decode cX5_heldSpots 3 = .ok (.istore_n 3, 1) := by decide +kernel
theorem dX5_heldSpots_4 : decode cX5_heldSpots 4 = .ok (.iload_n 3, 1) := by decide +kernel
theorem dX5_heldSpots_5 : decode cX5_heldSpots 5 = .ok (.iload_n 1, 1) := by decide +kernel
theorem dX5_heldSpots_6 : decode cX5_heldSpots 6 = .ok (.if_icmp .ge 19, 3) := by decide +kernel
theorem dX5_heldSpots_9 : decode cX5_heldSpots 9 = .ok (.iload_n 2, 1) := by decide +kernel
theorem dX5_heldSpots_10 : decode cX5_heldSpots 10 = .ok (.iconst 1, 1) := by decide +kernel
theorem dX5_heldSpots_11 : decode cX5_heldSpots 11 = .ok (.aload_n 0, 1) := by decide +kernel
theorem dX5_heldSpots_12 : decode cX5_heldSpots 12 = .ok (.iload_n 3, 1) := by decide +kernel
theorem dX5_heldSpots_13 : decode cX5_heldSpots 13 = .ok (.iaload, 1) := by decide +kernel
theorem dX5_heldSpots_14 : decode cX5_heldSpots 14 = .ok (.iconst 4, 1) := by decide +kernel
theorem dX5_heldSpots_15 : decode cX5_heldSpots 15 = .ok (.idiv, 1) := by decide +kernel
theorem dX5_heldSpots_16 : decode cX5_heldSpots 16 = .ok (.ishl, 1) := by decide +kernel
theorem dX5_heldSpots_17 : decode cX5_heldSpots 17 = .ok (.ior, 1) := by decide +kernel
theorem dX5_heldSpots_18 : decode cX5_heldSpots 18 = .ok (.istore_n 2, 1) := by decide +kernel
theorem dX5_heldSpots_19 : decode cX5_heldSpots 19 = .ok (.iinc 3 1, 3) := by decide +kernel
theorem dX5_heldSpots_22 : decode cX5_heldSpots 22 = .ok (.goto (-18), 3) := by decide +kernel
theorem dX5_heldSpots_25 : decode cX5_heldSpots 25 = .ok (.iload_n 2, 1) := by decide +kernel
theorem dX5_heldSpots_26 : decode cX5_heldSpots 26 = .ok (.ireturn, 1) := by decide +kernel
theorem dX6_init_0 : decode cX6_init 0 = .ok (.aload_n 0, 1) := by decide +kernel
theorem dX6_init_1 : decode cX6_init 1 = .ok (.invokespecial 1, 3) := by decide +kernel
theorem dX6_init_4 : decode cX6_init 4 = .ok (.aload_n 0, 1) := by decide +kernel
theorem dX6_init_5 : decode cX6_init 5 = .ok (.sipush 336, 3) := by decide +kernel
theorem dX6_init_8 : decode cX6_init 8 = .ok (.newarray .int, 2) := by decide +kernel
theorem dX6_init_10 : decode cX6_init 10 = .ok (.putfield 7, 3) := by decide +kernel
theorem dX6_init_13 : decode cX6_init 13 = .ok (.aload_n 0, 1) := by decide +kernel
theorem dX6_init_14 : decode cX6_init 14 = .ok (.sipush 1680, 3) := by decide +kernel
theorem dX6_init_17 : decode cX6_init 17 = .ok (.newarray .int, 2) := by decide +kernel
theorem dX6_init_19 : decode cX6_init 19 = .ok (.putfield 13, 3) := by decide +kernel
theorem dX6_init_22 : decode cX6_init 22 = .ok (.aload_n 0, 1) := by decide +kernel
theorem dX6_init_23 : decode cX6_init 23 = .ok (.sipush 336, 3) := by decide +kernel
theorem dX6_init_26 : decode cX6_init 26 = .ok (.newarray .int, 2) := by decide +kernel
theorem dX6_init_28 : decode cX6_init 28 = .ok (.putfield 16, 3) := by decide +kernel
theorem dX6_init_31 : decode cX6_init 31 = .ok (.aload_n 0, 1) := by decide +kernel
theorem dX6_init_32 : decode cX6_init 32 = .ok (.iconst 3, 1) := by decide +kernel
theorem dX6_init_33 : decode cX6_init 33 = .ok (.newarray .int, 2) := by decide +kernel
theorem dX6_init_35 : decode cX6_init 35 = .ok (.putfield 19, 3) := by decide +kernel
theorem dX6_init_38 : decode cX6_init 38 = .ok (.aload_n 0, 1) := by decide +kernel
theorem dX6_init_39 : decode cX6_init 39 = .ok (.bipush 120, 2) := by decide +kernel
theorem dX6_init_41 : decode cX6_init 41 = .ok (.newarray .int, 2) := by decide +kernel
theorem dX6_init_43 : decode cX6_init 43 = .ok (.putfield 22, 3) := by decide +kernel
theorem dX6_init_46 : decode cX6_init 46 = .ok (.aload_n 0, 1) := by decide +kernel
theorem dX6_init_47 : decode cX6_init 47 = .ok (.bipush 96, 2) := by decide +kernel
theorem dX6_init_49 : decode cX6_init 49 = .ok (.newarray .int, 2) := by decide +kernel
theorem dX6_init_51 : decode cX6_init 51 = .ok (.putfield 25, 3) := by decide +kernel
theorem dX6_init_54 : decode cX6_init 54 = .ok (.aload_n 0, 1) := by decide +kernel
theorem dX6_init_55 : decode cX6_init 55 = .ok (.bipush 6, 2) := by decide +kernel
theorem dX6_init_57 : decode cX6_init 57 = .ok (.newarray .int, 2) := by decide +kernel
theorem dX6_init_59 : decode cX6_init 59 = .ok (.putfield 28, 3) := by decide +kernel
theorem dX6_init_62 : decode cX6_init 62 = .ok (.aload_n 0, 1) := by decide +kernel
theorem dX6_init_63 : decode cX6_init 63 = .ok (.sipush 1560, 3) := by decide +kernel
theorem dX6_init_66 : decode cX6_init 66 = .ok (.newarray .int, 2) := by decide +kernel
theorem dX6_init_68 : decode cX6_init 68 = .ok (.putfield 31, 3) := by decide +kernel
theorem dX6_init_71 : decode cX6_init 71 = .ok (.aload_n 0, 1) := by decide +kernel
theorem dX6_init_72 : decode cX6_init 72 = .ok (.iconst 0, 1) := by decide +kernel
theorem dX6_init_73 : decode cX6_init 73 = .ok (.putfield 34, 3) := by decide +kernel
theorem dX6_init_76 : decode cX6_init 76 = .ok (.return_, 1) := by decide +kernel
theorem dX6_isIn_0 : decode cX6_isIn 0 = .ok (.iload_n 0, 1) := by decide +kernel
theorem dX6_isIn_1 : decode cX6_isIn 1 = .ok (.iload_n 1, 1) := by decide +kernel
theorem dX6_isIn_2 : decode cX6_isIn 2 = .ok (.if_icmp .lt 12, 3) := by decide +kernel
theorem dX6_isIn_5 : decode cX6_isIn 5 = .ok (.iload_n 0, 1) := by decide +kernel
theorem dX6_isIn_6 : decode cX6_isIn 6 = .ok (.iload_n 2, 1) := by decide +kernel
theorem dX6_isIn_7 : decode cX6_isIn 7 = .ok (.if_icmp .gt 7, 3) := by decide +kernel
theorem dX6_isIn_10 : decode cX6_isIn 10 = .ok (.iconst 1, 1) := by decide +kernel
theorem dX6_isIn_11 : decode cX6_isIn 11 = .ok (.goto 4, 3) := by decide +kernel
theorem dX6_isIn_14 : decode cX6_isIn 14 = .ok (.iconst 0, 1) := by decide +kernel
theorem dX6_isIn_15 : decode cX6_isIn 15 = .ok (.ireturn, 1) := by decide +kernel
theorem dX6_refused_0 : decode cX6_refused 0 = .ok (.aload_n 0, 1) := by decide +kernel
theorem dX6_refused_1 : decode cX6_refused 1 = .ok (.getfield 19, 3) := by decide +kernel
theorem dX6_refused_4 : decode cX6_refused 4 = .ok (.bipush (-2), 2) := by decide +kernel
theorem dX6_refused_6 : decode cX6_refused 6 = .ok (.iload_n 1, 1) := by decide +kernel
theorem dX6_refused_7 : decode cX6_refused 7 = .ok (.isub, 1) := by decide +kernel
theorem dX6_refused_8 : decode cX6_refused 8 = .ok (.dup2, 1) := by decide +kernel
theorem dX6_refused_9 : decode cX6_refused 9 = .ok (.iaload, 1) := by decide +kernel
theorem dX6_refused_10 : decode cX6_refused 10 = .ok (.iconst 1, 1) := by decide +kernel
theorem dX6_refused_11 : decode cX6_refused 11 = .ok (.iadd, 1) := by decide +kernel
theorem dX6_refused_12 : decode cX6_refused 12 = .ok (.iastore, 1) := by decide +kernel
theorem dX6_refused_13 : decode cX6_refused 13 = .ok (.iload_n 1, 1) := by decide +kernel
theorem dX6_refused_14 : decode cX6_refused 14 = .ok (.ireturn, 1) := by decide +kernel
theorem dX6_counted_0 : decode cX6_counted 0 = .ok (.iload_n 1, 1) := by decide +kernel
theorem dX6_counted_1 : decode cX6_counted 1 = .ok (.iconst (-1), 1) := by decide +kernel
theorem dX6_counted_2 : decode cX6_counted 2 = .ok (.if_icmp .ge 17, 3) := by decide +kernel
theorem dX6_counted_5 : decode cX6_counted 5 = .ok (.iload_n 1, 1) := by decide +kernel
theorem dX6_counted_6 : decode cX6_counted 6 = .ok (.bipush (-5), 2) := by decide +kernel
theorem dX6_counted_8 : decode cX6_counted 8 = .ok (.if_icmp .le 11, 3) := by decide +kernel
theorem dX6_counted_11 : decode cX6_counted 11 = .ok (.aload_n 0, 1) := by decide +kernel
theorem dX6_counted_12 : decode cX6_counted 12 = .ok (.iload_n 1, 1) := by decide +kernel
theorem dX6_counted_13 : decode cX6_counted 13 = .ok (.invokevirtual 38, 3) := by decide +kernel
theorem dX6_counted_16 : decode cX6_counted 16 = .ok (.goto 4, 3) := by decide +kernel
theorem dX6_counted_19 : decode cX6_counted 19 = .ok (.iload_n 1, 1) := by decide +kernel
theorem dX6_counted_20 : decode cX6_counted 20 = .ok (.ireturn, 1) := by decide +kernel
theorem dX6_keeps_0 : decode cX6_keeps 0 = .ok (.aload_n 0, 1) := by decide +kernel
theorem dX6_keeps_1 : decode cX6_keeps 1 = .ok (.getfield 42, 3) := by decide +kernel
theorem dX6_keeps_4 : decode cX6_keeps 4 = .ok (.iconst 5, 1) := by decide +kernel
theorem dX6_keeps_5 : decode cX6_keeps 5 = .ok (.if_icmp .ne 44, 3) := by decide +kernel
theorem dX6_keeps_8 : decode cX6_keeps 8 = .ok (.iconst 0, 1) := by decide +kernel
theorem dX6_keeps_9 : decode cX6_keeps 9 = .ok (.istore_n 1, 1) := by decide +kernel
theorem dX6_keeps_10 : decode cX6_keeps 10 = .ok (.iload_n 1, 1) := by decide +kernel
theorem dX6_keeps_11 : decode cX6_keeps 11 = .ok (.sipush 1344, 3) := by decide +kernel
theorem dX6_keeps_14 : decode cX6_keeps 14 = .ok (.if_icmp .ge 25, 3) := by decide +kernel
theorem dX6_keeps_17 : decode cX6_keeps 17 = .ok (.aload_n 0, 1) := by decide +kernel
theorem dX6_keeps_18 : decode cX6_keeps 18 = .ok (.getfield 13, 3) := by decide +kernel
theorem dX6_keeps_21 : decode cX6_keeps 21 = .ok (.iload_n 1, 1) := by decide +kernel
theorem dX6_keeps_22 : decode cX6_keeps 22 = .ok (.aload_n 0, 1) := by decide +kernel
theorem dX6_keeps_23 : decode cX6_keeps 23 = .ok (.getfield 13, 3) := by decide +kernel
theorem dX6_keeps_26 : decode cX6_keeps 26 = .ok (.iload_n 1, 1) := by decide +kernel
theorem dX6_keeps_27 : decode cX6_keeps 27 = .ok (.sipush 336, 3) := by decide +kernel
theorem dX6_keeps_30 : decode cX6_keeps 30 = .ok (.iadd, 1) := by decide +kernel
theorem dX6_keeps_31 : decode cX6_keeps 31 = .ok (.iaload, 1) := by decide +kernel
theorem dX6_keeps_32 : decode cX6_keeps 32 = .ok (.iastore, 1) := by decide +kernel
theorem dX6_keeps_33 : decode cX6_keeps 33 = .ok (.iinc 1 1, 3) := by decide +kernel
theorem dX6_keeps_36 : decode cX6_keeps 36 = .ok (.goto (-26), 3) := by decide +kernel
theorem dX6_keeps_39 : decode cX6_keeps 39 = .ok (.aload_n 0, 1) := by decide +kernel
theorem dX6_keeps_40 : decode cX6_keeps 40 = .ok (.dup, 1) := by decide +kernel
theorem dX6_keeps_41 : decode cX6_keeps 41 = .ok (.getfield 42, 3) := by decide +kernel
theorem dX6_keeps_44 : decode cX6_keeps 44 = .ok (.iconst 1, 1) := by decide +kernel
theorem dX6_keeps_45 : decode cX6_keeps 45 = .ok (.isub, 1) := by decide +kernel
theorem dX6_keeps_46 : decode cX6_keeps 46 = .ok (.putfield 42, 3) := by decide +kernel
theorem dX6_keeps_49 : decode cX6_keeps 49 = .ok (.iconst 0, 1) := by decide +kernel
theorem dX6_keeps_50 : decode cX6_keeps 50 = .ok (.istore_n 1, 1) := by decide +kernel
theorem dX6_keeps_51 : decode cX6_keeps 51 = .ok (.iload_n 1, 1) := by decide +kernel
theorem dX6_keeps_52 : decode cX6_keeps 52 = .ok (.sipush 336, 3) := by decide +kernel
theorem dX6_keeps_55 : decode cX6_keeps 55 = .ok (.if_icmp .ge 30, 3) := by decide +kernel
theorem dX6_keeps_58 : decode cX6_keeps 58 = .ok (.aload_n 0, 1) := by decide +kernel
theorem dX6_keeps_59 : decode cX6_keeps 59 = .ok (.getfield 13, 3) := by decide +kernel
theorem dX6_keeps_62 : decode cX6_keeps 62 = .ok (.sipush 336, 3) := by decide +kernel
theorem dX6_keeps_65 : decode cX6_keeps 65 = .ok (.aload_n 0, 1) := by decide +kernel
theorem dX6_keeps_66 : decode cX6_keeps 66 = .ok (.getfield 42, 3) := by decide +kernel
theorem dX6_keeps_69 : decode cX6_keeps 69 = .ok (.imul, 1) := by decide +kernel
theorem dX6_keeps_70 : decode cX6_keeps 70 = .ok (.iload_n 1, 1) := by decide +kernel
theorem dX6_keeps_71 : decode cX6_keeps 71 = .ok (.iadd, 1) := by decide +kernel
theorem dX6_keeps_72 : decode cX6_keeps 72 = .ok (.aload_n 0, 1) := by decide +kernel
theorem dX6_keeps_73 : decode cX6_keeps 73 = .ok (.getfield 7, 3) := by decide +kernel
theorem dX6_keeps_76 : decode cX6_keeps 76 = .ok (.iload_n 1, 1) := by decide +kernel
theorem dX6_keeps_77 : decode cX6_keeps 77 = .ok (.iaload, 1) := by decide +kernel
theorem dX6_keeps_78 : decode cX6_keeps 78 = .ok (.iastore, 1) := by decide +kernel
theorem dX6_keeps_79 : decode cX6_keeps 79 = .ok (.iinc 1 1, 3) := by decide +kernel
theorem dX6_keeps_82 : decode cX6_keeps 82 = .ok (.goto (-31), 3) := by decide +kernel
theorem dX6_keeps_85 : decode cX6_keeps 85 = .ok (.aload_n 0, 1) := by decide +kernel
theorem dX6_keeps_86 : decode cX6_keeps 86 = .ok (.dup, 1) := by decide +kernel
theorem dX6_keeps_87 : decode cX6_keeps 87 = .ok (.getfield 42, 3) := by decide +kernel
theorem dX6_keeps_90 : decode cX6_keeps 90 = .ok (.iconst 1, 1) := by decide +kernel
theorem dX6_keeps_91 : decode cX6_keeps 91 = .ok (.iadd, 1) := by decide +kernel
theorem dX6_keeps_92 : decode cX6_keeps 92 = .ok (.putfield 42, 3) := by decide +kernel
theorem dX6_keeps_95 : decode cX6_keeps 95 = .ok (.return_, 1) := by decide +kernel
theorem dX6_done_0 : decode cX6_done 0 = .ok (.iload_n 1, 1) := by decide +kernel
theorem dX6_done_1 : decode cX6_done 1 = .ok (.iconst (-1), 1) := by decide +kernel
theorem dX6_done_2 : decode cX6_done 2 = .ok (.if_icmp .ge 9, 3) := by decide +kernel
theorem dX6_done_5 : decode cX6_done 5 = .ok (.aload_n 0, 1) := by decide +kernel
theorem dX6_done_6 : decode cX6_done 6 = .ok (.iload_n 1, 1) := by decide +kernel
theorem dX6_done_7 : decode cX6_done 7 = .ok (.invokevirtual 38, 3) := by decide +kernel
theorem dX6_done_10 : decode cX6_done 10 = .ok (.ireturn, 1) := by decide +kernel
theorem dX6_done_11 : decode cX6_done 11 = .ok (.iconst 0, 1) := by decide +kernel
theorem dX6_done_12 : decode cX6_done 12 = .ok (.istore_n 2, 1) := by decide +kernel
theorem dX6_done_13 : decode cX6_done 13 = .ok (.iload_n 2, 1) := by decide +kernel
theorem dX6_done_14 : decode cX6_done 14 = .ok (.sipush 336, 3) := by decide +kernel
theorem dX6_done_17 : decode cX6_done 17 = .ok (.if_icmp .ge 35, 3) := by decide +kernel
theorem dX6_done_20 : decode cX6_done 20 = .ok (.aload_n 0, 1) := by decide +kernel
theorem dX6_done_21 : decode cX6_done 21 = .ok (.getfield 7, 3) := by decide +kernel
theorem dX6_done_24 : decode cX6_done 24 = .ok (.iload_n 2, 1) := by decide +kernel
theorem dX6_done_25 : decode cX6_done 25 = .ok (.iaload, 1) := by decide +kernel
theorem dX6_done_26 : decode cX6_done 26 = .ok (.istore_n 3, 1) := by decide +kernel
theorem dX6_done_27 : decode cX6_done 27 = .ok (.aload_n 0, 1) := by decide +kernel
theorem dX6_done_28 : decode cX6_done 28 = .ok (.getfield 7, 3) := by decide +kernel
theorem dX6_done_31 : decode cX6_done 31 = .ok (.iload_n 2, 1) := by decide +kernel
theorem dX6_done_32 : decode cX6_done 32 = .ok (.aload_n 0, 1) := by decide +kernel
theorem dX6_done_33 : decode cX6_done 33 = .ok (.getfield 16, 3) := by decide +kernel
theorem dX6_done_36 : decode cX6_done 36 = .ok (.iload_n 2, 1) := by decide +kernel
theorem dX6_done_37 : decode cX6_done 37 = .ok (.iaload, 1) := by decide +kernel
theorem dX6_done_38 : decode cX6_done 38 = .ok (.iastore, 1) := by decide +kernel
theorem dX6_done_39 : decode cX6_done 39 = .ok (.aload_n 0, 1) := by decide +kernel
theorem dX6_done_40 : decode cX6_done 40 = .ok (.getfield 16, 3) := by decide +kernel
theorem dX6_done_43 : decode cX6_done 43 = .ok (.iload_n 2, 1) := by decide +kernel
theorem dX6_done_44 : decode cX6_done 44 = .ok (.iload_n 3, 1) := by decide +kernel
theorem dX6_done_45 : decode cX6_done 45 = .ok (.iastore, 1) := by decide +kernel
theorem dX6_done_46 : decode cX6_done 46 = .ok (.iinc 2 1, 3) := by decide +kernel
theorem dX6_done_49 : decode cX6_done 49 = .ok (.goto (-36), 3) := by decide +kernel
theorem dX6_done_52 : decode cX6_done 52 = .ok (.aload_n 0, 1) := by decide +kernel
theorem dX6_done_53 : decode cX6_done 53 = .ok (.invokevirtual 45, 3) := by decide +kernel
theorem dX6_done_56 : decode cX6_done 56 = .ok (.iconst 0, 1) := by decide +kernel
theorem dX6_done_57 : decode cX6_done 57 = .ok (.istore_n 2, 1) := by decide +kernel
theorem dX6_done_58 : decode cX6_done 58 = .ok (.iload_n 2, 1) := by decide +kernel
theorem dX6_done_59 : decode cX6_done 59 = .ok (.sipush 336, 3) := by decide +kernel
theorem dX6_done_62 : decode cX6_done 62 = .ok (.if_icmp .ge 21, 3) := by decide +kernel
theorem dX6_done_65 : decode cX6_done 65 = .ok (.aload_n 0, 1) := by decide +kernel
theorem dX6_done_66 : decode cX6_done 66 = .ok (.getfield 7, 3) := by decide +kernel
theorem dX6_done_69 : decode cX6_done 69 = .ok (.iload_n 2, 1) := by decide +kernel
theorem dX6_done_70 : decode cX6_done 70 = .ok (.aload_n 0, 1) := by decide +kernel
theorem dX6_done_71 : decode cX6_done 71 = .ok (.getfield 16, 3) := by decide +kernel
theorem dX6_done_74 : decode cX6_done 74 = .ok (.iload_n 2, 1) := by decide +kernel
theorem dX6_done_75 : decode cX6_done 75 = .ok (.iaload, 1) := by decide +kernel
theorem dX6_done_76 : decode cX6_done 76 = .ok (.iastore, 1) := by decide +kernel
theorem dX6_done_77 : decode cX6_done 77 = .ok (.iinc 2 1, 3) := by decide +kernel
theorem dX6_done_80 : decode cX6_done 80 = .ok (.goto (-22), 3) := by decide +kernel
theorem dX6_done_83 : decode cX6_done 83 = .ok (.iload_n 1, 1) := by decide +kernel
theorem dX6_done_84 : decode cX6_done 84 = .ok (.ireturn, 1) := by decide +kernel
theorem dX6_notes_0 : decode cX6_notes 0 = .ok (.iconst 0, 1) := by decide +kernel
theorem dX6_notes_1 : decode cX6_notes 1 = .ok (.istore_n 1, 1) := by decide +kernel
theorem dX6_notes_2 : decode cX6_notes 2 = .ok (.iload_n 1, 1) := by decide +kernel
theorem dX6_notes_3 : decode cX6_notes 3 = .ok (.sipush 336, 3) := by decide +kernel
theorem dX6_notes_6 : decode cX6_notes 6 = .ok (.if_icmp .ge 21, 3) := by decide +kernel
theorem dX6_notes_9 : decode cX6_notes 9 = .ok (.aload_n 0, 1) := by decide +kernel
theorem dX6_notes_10 : decode cX6_notes 10 = .ok (.getfield 16, 3) := by decide +kernel
theorem dX6_notes_13 : decode cX6_notes 13 = .ok (.iload_n 1, 1) := by decide +kernel
theorem dX6_notes_14 : decode cX6_notes 14 = .ok (.aload_n 0, 1) := by decide +kernel
theorem dX6_notes_15 : decode cX6_notes 15 = .ok (.getfield 7, 3) := by decide +kernel
theorem dX6_notes_18 : decode cX6_notes 18 = .ok (.iload_n 1, 1) := by decide +kernel
theorem dX6_notes_19 : decode cX6_notes 19 = .ok (.iaload, 1) := by decide +kernel
theorem dX6_notes_20 : decode cX6_notes 20 = .ok (.iastore, 1) := by decide +kernel
theorem dX6_notes_21 : decode cX6_notes 21 = .ok (.iinc 1 1, 3) := by decide +kernel
theorem dX6_notes_24 : decode cX6_notes 24 = .ok (.goto (-22), 3) := by decide +kernel
theorem dX6_notes_27 : decode cX6_notes 27 = .ok (.return_, 1) := by decide +kernel
theorem dX6_place_0 : decode cX6_place 0 = .ok (.bipush 36, 2) := by decide +kernel
theorem dX6_place_2 : decode cX6_place 2 = .ok (.bipush 36, 2) := by decide +kernel
theorem dX6_place_4 : decode cX6_place 4 = .ok (.iload_n 1, 1) := by decide +kernel
theorem dX6_place_5 : decode cX6_place 5 = .ok (.imul, 1) := by decide +kernel
theorem dX6_place_6 : decode cX6_place 6 = .ok (.iadd, 1) := by decide +kernel
theorem dX6_place_7 : decode cX6_place 7 = .ok (.bipush 12, 2) := by decide +kernel
theorem dX6_place_9 : decode cX6_place 9 = .ok (.iload_n 3, 1) := by decide +kernel
theorem dX6_place_10 : decode cX6_place 10 = .ok (.imul, 1) := by decide +kernel
theorem dX6_place_11 : decode cX6_place 11 = .ok (.iadd, 1) := by decide +kernel
theorem dX6_place_12 : decode cX6_place 12 = .ok (.iload_n 2, 1) := by decide +kernel
theorem dX6_place_13 : decode cX6_place 13 = .ok (.iadd, 1) := by decide +kernel
theorem dX6_place_14 : decode cX6_place 14 = .ok (.ireturn, 1) := by decide +kernel
theorem dX6_isDancer_0 : decode cX6_isDancer 0 = .ok (.iload_n 1, 1) := by decide +kernel
theorem dX6_isDancer_1 : decode cX6_isDancer 1 = .ok (.iconst 0, 1) := by decide +kernel
theorem dX6_isDancer_2 : decode cX6_isDancer 2 = .ok (.aload_n 0, 1) := by decide +kernel
theorem dX6_isDancer_3 : decode cX6_isDancer 3 = .ok (.getfield 7, 3) := by decide +kernel
theorem dX6_isDancer_6 : decode cX6_isDancer 6 = .ok (.iconst 0, 1) := by decide +kernel
theorem dX6_isDancer_7 : decode cX6_isDancer 7 = .ok (.iaload, 1) := by decide +kernel
theorem dX6_isDancer_8 : decode cX6_isDancer 8 = .ok (.iconst 1, 1) := by decide +kernel
theorem dX6_isDancer_9 : decode cX6_isDancer 9 = .ok (.isub, 1) := by decide +kernel
theorem dX6_isDancer_10 : decode cX6_isDancer 10 = .ok (.invokestatic 48, 3) := by decide +kernel
theorem dX6_isDancer_13 : decode cX6_isDancer 13 = .ok (.ireturn, 1) := by decide +kernel
theorem dX6_isCall_0 : decode cX6_isCall 0 = .ok (.iload_n 1, 1) := by decide +kernel
theorem dX6_isCall_1 : decode cX6_isCall 1 = .ok (.iconst 0, 1) := by decide +kernel
theorem dX6_isCall_2 : decode cX6_isCall 2 = .ok (.aload_n 0, 1) := by decide +kernel
theorem dX6_isCall_3 : decode cX6_isCall 3 = .ok (.getfield 7, 3) := by decide +kernel
theorem dX6_isCall_6 : decode cX6_isCall 6 = .ok (.iconst 1, 1) := by decide +kernel
theorem dX6_isCall_7 : decode cX6_isCall 7 = .ok (.iaload, 1) := by decide +kernel
theorem dX6_isCall_8 : decode cX6_isCall 8 = .ok (.iconst 1, 1) := by decide +kernel
theorem dX6_isCall_9 : decode cX6_isCall 9 = .ok (.isub, 1) := by decide +kernel
theorem dX6_isCall_10 : decode cX6_isCall 10 = .ok (.invokestatic 48, 3) := by decide +kernel
theorem dX6_isCall_13 : decode cX6_isCall 13 = .ok (.ireturn, 1) := by decide +kernel
theorem dX6_isSpot_0 : decode cX6_isSpot 0 = .ok (.iload_n 0, 1) := by decide +kernel
theorem dX6_isSpot_1 : decode cX6_isSpot 1 = .ok (.iconst 0, 1) := by decide +kernel
theorem dX6_isSpot_2 : decode cX6_isSpot 2 = .ok (.bipush 11, 2) := by decide +kernel
theorem dX6_isSpot_4 : decode cX6_isSpot 4 = .ok (.invokestatic 48, 3) := by decide +kernel
theorem dX6_isSpot_7 : decode cX6_isSpot 7 = .ok (.ireturn, 1) := by decide +kernel
theorem dX6_who_0 : decode cX6_who 0 = .ok (.iconst 0, 1) := by decide +kernel
theorem dX6_who_1 : decode cX6_who 1 = .ok (.istore_n 2, 1) := by decide +kernel
theorem dX6_who_2 : decode cX6_who 2 = .ok (.iload_n 2, 1) := by decide +kernel
theorem dX6_who_3 : decode cX6_who 3 = .ok (.aload_n 0, 1) := by decide +kernel
theorem dX6_who_4 : decode cX6_who 4 = .ok (.getfield 7, 3) := by decide +kernel
theorem dX6_who_7 : decode cX6_who 7 = .ok (.iconst 0, 1) := by decide +kernel
theorem dX6_who_8 : decode cX6_who 8 = .ok (.iaload, 1) := by decide +kernel
theorem dX6_who_9 : decode cX6_who 9 = .ok (.if_icmp .ge 25, 3) := by decide +kernel
theorem dX6_who_12 : decode cX6_who 12 = .ok (.aload_n 0, 1) := by decide +kernel
theorem dX6_who_13 : decode cX6_who 13 = .ok (.getfield 7, 3) := by decide +kernel
theorem dX6_who_16 : decode cX6_who 16 = .ok (.iconst 4, 1) := by decide +kernel
theorem dX6_who_17 : decode cX6_who 17 = .ok (.iconst 4, 1) := by decide +kernel
theorem dX6_who_18 : decode cX6_who 18 = .ok (.iload_n 2, 1) := by decide +kernel
theorem dX6_who_19 : decode cX6_who 19 = .ok (.imul, 1) := by decide +kernel
theorem dX6_who_20 : decode cX6_who 20 = .ok (.iadd, 1) := by decide +kernel
theorem dX6_who_21 : decode cX6_who 21 = .ok (.iaload, 1) := by decide +kernel
theorem dX6_who_22 : decode cX6_who 22 = .ok (.iload_n 1, 1) := by decide +kernel
theorem dX6_who_23 : decode cX6_who 23 = .ok (.if_icmp .ne 5, 3) := by decide +kernel
theorem dX6_who_26 : decode cX6_who 26 = .ok (.iload_n 2, 1) := by decide +kernel
theorem dX6_who_27 : decode cX6_who 27 = .ok (.ireturn, 1) := by decide +kernel
theorem dX6_who_28 : decode cX6_who 28 = .ok (.iinc 2 1, 3) := by decide +kernel
theorem dX6_who_31 : decode cX6_who 31 = .ok (.goto (-29), 3) := by decide +kernel
theorem dX6_who_34 : decode cX6_who 34 = .ok (.iconst (-1), 1) := by decide +kernel
theorem dX6_who_35 : decode cX6_who 35 = .ok (.ireturn, 1) := by decide +kernel
theorem dX6_comes_0 : decode cX6_comes 0 = .ok (.iconst 0, 1) := by decide +kernel
theorem dX6_comes_1 : decode cX6_comes 1 = .ok (.istore_n 3, 1) := by decide +kernel
theorem dX6_comes_2 : decode cX6_comes 2 = .ok (.iconst 0, 1) := by decide +kernel
theorem dX6_comes_3 : decode cX6_comes 3 = .ok (.istore 4, 2) := by decide +kernel
theorem dX6_comes_5 : decode cX6_comes 5 = .ok (.iload 4, 2) := by decide +kernel
theorem dX6_comes_7 : decode cX6_comes 7 = .ok (.aload_n 0, 1) := by decide +kernel
theorem dX6_comes_8 : decode cX6_comes 8 = .ok (.getfield 7, 3) := by decide +kernel
theorem dX6_comes_11 : decode cX6_comes 11 = .ok (.iconst 0, 1) := by decide +kernel
theorem dX6_comes_12 : decode cX6_comes 12 = .ok (.iaload, 1) := by decide +kernel
theorem dX6_comes_13 : decode cX6_comes 13 = .ok (.if_icmp .ge 50, 3) := by decide +kernel
theorem dX6_comes_16 : decode cX6_comes 16 = .ok (.iload_n 3, 1) := by decide +kernel
theorem dX6_comes_17 : decode cX6_comes 17 = .ok (.ifCond .ne 34, 3) := by decide +kernel
theorem dX6_comes_20 : decode cX6_comes 20 = .ok (.aload_n 0, 1) := by decide +kernel
theorem dX6_comes_21 : decode cX6_comes 21 = .ok (.getfield 7, 3) := by decide +kernel
theorem dX6_comes_24 : decode cX6_comes 24 = .ok (.iconst 4, 1) := by decide +kernel
theorem dX6_comes_25 : decode cX6_comes 25 = .ok (.iconst 4, 1) := by decide +kernel
theorem dX6_comes_26 : decode cX6_comes 26 = .ok (.iload 4, 2) := by decide +kernel
theorem dX6_comes_28 : decode cX6_comes 28 = .ok (.imul, 1) := by decide +kernel
theorem dX6_comes_29 : decode cX6_comes 29 = .ok (.iadd, 1) := by decide +kernel
theorem dX6_comes_30 : decode cX6_comes 30 = .ok (.iaload, 1) := by decide +kernel
theorem dX6_comes_31 : decode cX6_comes 31 = .ok (.iload_n 1, 1) := by decide +kernel
theorem dX6_comes_32 : decode cX6_comes 32 = .ok (.if_icmp .eq 19, 3) := by decide +kernel
theorem dX6_comes_35 : decode cX6_comes 35 = .ok (.aload_n 0, 1) := by decide +kernel
theorem dX6_comes_36 : decode cX6_comes 36 = .ok (.getfield 7, 3) := by decide +kernel
theorem dX6_comes_39 : decode cX6_comes 39 = .ok (.bipush 6, 2) := by decide +kernel
theorem dX6_comes_41 : decode cX6_comes 41 = .ok (.iconst 4, 1) := by decide +kernel
theorem dX6_comes_42 : decode cX6_comes 42 = .ok (.iload 4, 2) := by decide +kernel
theorem dX6_comes_44 : decode cX6_comes 44 = .ok (.imul, 1) := by decide +kernel
theorem dX6_comes_45 : decode cX6_comes 45 = .ok (.iadd, 1) := by decide +kernel
theorem dX6_comes_46 : decode cX6_comes 46 = .ok (.iaload, 1) := by decide +kernel
theorem dX6_comes_47 : decode cX6_comes 47 = .ok (.iload_n 1, 1) := by decide +kernel
theorem dX6_comes_48 : decode cX6_comes 48 = .ok (.if_icmp .ne 7, 3) := by decide +kernel
theorem dX6_comes_51 : decode cX6_comes 51 = .ok (.iconst 1, 1) := by decide +kernel
theorem dX6_comes_52 : decode cX6_comes 52 = .ok (.goto 4, 3) := by decide +kernel
theorem dX6_comes_55 : decode cX6_comes 55 = .ok (.iconst 0, 1) := by decide +kernel
theorem dX6_comes_56 : decode cX6_comes 56 = .ok (.istore_n 3, 1) := by decide +kernel
theorem dX6_comes_57 : decode cX6_comes 57 = .ok (.iinc 4 1, 3) := by decide +kernel
theorem dX6_comes_60 : decode cX6_comes 60 = .ok (.goto (-55), 3) := by decide +kernel
theorem dX6_comes_63 : decode cX6_comes 63 = .ok (.iload_n 1, 1) := by decide +kernel
theorem dX6_comes_64 : decode cX6_comes 64 = .ok (.invokestatic 52, 3) := by decide +kernel
theorem dX6_comes_67 : decode cX6_comes 67 = .ok (.ifCond .eq 16, 3) := by decide +kernel
theorem dX6_comes_70 : decode cX6_comes 70 = .ok (.iload_n 2, 1) := by decide +kernel
theorem dX6_comes_71 : decode cX6_comes 71 = .ok (.iconst 0, 1) := by decide +kernel
theorem dX6_comes_72 : decode cX6_comes 72 = .ok (.iconst 3, 1) := by decide +kernel
theorem dX6_comes_73 : decode cX6_comes 73 = .ok (.invokestatic 48, 3) := by decide +kernel
theorem dX6_comes_76 : decode cX6_comes 76 = .ok (.ifCond .eq 7, 3) := by decide +kernel
theorem dX6_comes_79 : decode cX6_comes 79 = .ok (.iload_n 3, 1) := by decide +kernel
theorem dX6_comes_80 : decode cX6_comes 80 = .ok (.ifCond .eq 6, 3) := by decide +kernel
theorem dX6_comes_83 : decode cX6_comes 83 = .ok (.bipush (-2), 2) := by decide +kernel
theorem dX6_comes_85 : decode cX6_comes 85 = .ok (.ireturn, 1) := by decide +kernel
theorem dX6_comes_86 : decode cX6_comes 86 = .ok (.aload_n 0, 1) := by decide +kernel
theorem dX6_comes_87 : decode cX6_comes 87 = .ok (.getfield 7, 3) := by decide +kernel
theorem dX6_comes_90 : decode cX6_comes 90 = .ok (.iconst 0, 1) := by decide +kernel
theorem dX6_comes_91 : decode cX6_comes 91 = .ok (.iaload, 1) := by decide +kernel
theorem dX6_comes_92 : decode cX6_comes 92 = .ok (.bipush 8, 2) := by decide +kernel
theorem dX6_comes_94 : decode cX6_comes 94 = .ok (.if_icmp .ne 6, 3) := by decide +kernel
theorem dX6_comes_97 : decode cX6_comes 97 = .ok (.bipush (-4), 2) := by decide +kernel
theorem dX6_comes_99 : decode cX6_comes 99 = .ok (.ireturn, 1) := by decide +kernel
theorem dX6_comes_100 : decode cX6_comes 100 = .ok (.iconst 4, 1) := by decide +kernel
theorem dX6_comes_101 : decode cX6_comes 101 = .ok (.iconst 4, 1) := by decide +kernel
theorem dX6_comes_102 : decode cX6_comes 102 = .ok (.aload_n 0, 1) := by decide +kernel
theorem dX6_comes_103 : decode cX6_comes 103 = .ok (.getfield 7, 3) := by decide +kernel
theorem dX6_comes_106 : decode cX6_comes 106 = .ok (.iconst 0, 1) := by decide +kernel
end
section
theorem dX6_comes_107 : decode cX6_comes 107 = .ok (.iaload, 1) := by decide +kernel
theorem dX6_comes_108 : decode cX6_comes 108 = .ok (.imul, 1) := by decide +kernel
theorem dX6_comes_109 : decode cX6_comes 109 = .ok (.iadd, 1) := by decide +kernel
theorem dX6_comes_110 : decode cX6_comes 110 = .ok (.istore 4, 2) := by decide +kernel
theorem dX6_comes_112 : decode cX6_comes 112 = .ok (.aload_n 0, 1) := by decide +kernel
theorem dX6_comes_113 : decode cX6_comes 113 = .ok (.getfield 7, 3) := by decide +kernel
theorem dX6_comes_116 : decode cX6_comes 116 = .ok (.iload 4, 2) := by decide +kernel
theorem dX6_comes_118 : decode cX6_comes 118 = .ok (.iload_n 1, 1) := by decide +kernel
theorem dX6_comes_119 : decode cX6_comes 119 = .ok (.iastore, 1) := by decide +kernel
theorem dX6_comes_120 : decode cX6_comes 120 = .ok (.aload_n 0, 1) := by decide +kernel
theorem dX6_comes_121 : decode cX6_comes 121 = .ok (.getfield 7, 3) := by decide +kernel
theorem dX6_comes_124 : decode cX6_comes 124 = .ok (.iload 4, 2) := by decide +kernel
theorem dX6_comes_126 : decode cX6_comes 126 = .ok (.iconst 1, 1) := by decide +kernel
theorem dX6_comes_127 : decode cX6_comes 127 = .ok (.iadd, 1) := by decide +kernel
theorem dX6_comes_128 : decode cX6_comes 128 = .ok (.iload_n 2, 1) := by decide +kernel
theorem dX6_comes_129 : decode cX6_comes 129 = .ok (.iastore, 1) := by decide +kernel
theorem dX6_comes_130 : decode cX6_comes 130 = .ok (.aload_n 0, 1) := by decide +kernel
theorem dX6_comes_131 : decode cX6_comes 131 = .ok (.getfield 7, 3) := by decide +kernel
theorem dX6_comes_134 : decode cX6_comes 134 = .ok (.iload 4, 2) := by decide +kernel
theorem dX6_comes_136 : decode cX6_comes 136 = .ok (.iconst 2, 1) := by decide +kernel
theorem dX6_comes_137 : decode cX6_comes 137 = .ok (.iadd, 1) := by decide +kernel
theorem dX6_comes_138 : decode cX6_comes 138 = .ok (.iload_n 1, 1) := by decide +kernel
theorem dX6_comes_139 : decode cX6_comes 139 = .ok (.iastore, 1) := by decide +kernel
theorem dX6_comes_140 : decode cX6_comes 140 = .ok (.aload_n 0, 1) := by decide +kernel
theorem dX6_comes_141 : decode cX6_comes 141 = .ok (.getfield 7, 3) := by decide +kernel
theorem dX6_comes_144 : decode cX6_comes 144 = .ok (.iload 4, 2) := by decide +kernel
theorem dX6_comes_146 : decode cX6_comes 146 = .ok (.iconst 3, 1) := by decide +kernel
theorem dX6_comes_147 : decode cX6_comes 147 = .ok (.iadd, 1) := by decide +kernel
theorem dX6_comes_148 : decode cX6_comes 148 = .ok (.iload_n 2, 1) := by decide +kernel
theorem dX6_comes_149 : decode cX6_comes 149 = .ok (.iastore, 1) := by decide +kernel
theorem dX6_comes_150 : decode cX6_comes 150 = .ok (.aload_n 0, 1) := by decide +kernel
theorem dX6_comes_151 : decode cX6_comes 151 = .ok (.getfield 7, 3) := by decide +kernel
theorem dX6_comes_154 : decode cX6_comes 154 = .ok (.iconst 0, 1) := by decide +kernel
theorem dX6_comes_155 : decode cX6_comes 155 = .ok (.dup2, 1) := by decide +kernel
theorem dX6_comes_156 : decode cX6_comes 156 = .ok (.iaload, 1) := by decide +kernel
theorem dX6_comes_157 : decode cX6_comes 157 = .ok (.iconst 1, 1) := by decide +kernel
theorem dX6_comes_158 : decode cX6_comes 158 = .ok (.iadd, 1) := by decide +kernel
theorem dX6_comes_159 : decode cX6_comes 159 = .ok (.iastore, 1) := by decide +kernel
theorem dX6_comes_160 : decode cX6_comes 160 = .ok (.aload_n 0, 1) := by decide +kernel
theorem dX6_comes_161 : decode cX6_comes 161 = .ok (.getfield 7, 3) := by decide +kernel
theorem dX6_comes_164 : decode cX6_comes 164 = .ok (.iconst 0, 1) := by decide +kernel
theorem dX6_comes_165 : decode cX6_comes 165 = .ok (.iaload, 1) := by decide +kernel
theorem dX6_comes_166 : decode cX6_comes 166 = .ok (.iconst 1, 1) := by decide +kernel
theorem dX6_comes_167 : decode cX6_comes 167 = .ok (.isub, 1) := by decide +kernel
theorem dX6_comes_168 : decode cX6_comes 168 = .ok (.ireturn, 1) := by decide +kernel
theorem dX6_adds_0 : decode cX6_adds 0 = .ok (.aload_n 0, 1) := by decide +kernel
theorem dX6_adds_1 : decode cX6_adds 1 = .ok (.getfield 7, 3) := by decide +kernel
theorem dX6_adds_4 : decode cX6_adds 4 = .ok (.iconst 1, 1) := by decide +kernel
theorem dX6_adds_5 : decode cX6_adds 5 = .ok (.iaload, 1) := by decide +kernel
theorem dX6_adds_6 : decode cX6_adds 6 = .ok (.bipush 8, 2) := by decide +kernel
theorem dX6_adds_8 : decode cX6_adds 8 = .ok (.if_icmp .ne 6, 3) := by decide +kernel
theorem dX6_adds_11 : decode cX6_adds 11 = .ok (.bipush (-4), 2) := by decide +kernel
theorem dX6_adds_13 : decode cX6_adds 13 = .ok (.ireturn, 1) := by decide +kernel
theorem dX6_adds_14 : decode cX6_adds 14 = .ok (.iconst 0, 1) := by decide +kernel
theorem dX6_adds_15 : decode cX6_adds 15 = .ok (.istore_n 1, 1) := by decide +kernel
theorem dX6_adds_16 : decode cX6_adds 16 = .ok (.iload_n 1, 1) := by decide +kernel
theorem dX6_adds_17 : decode cX6_adds 17 = .ok (.bipush 12, 2) := by decide +kernel
theorem dX6_adds_19 : decode cX6_adds 19 = .ok (.if_icmp .ge 63, 3) := by decide +kernel
theorem dX6_adds_22 : decode cX6_adds 22 = .ok (.aload_n 0, 1) := by decide +kernel
theorem dX6_adds_23 : decode cX6_adds 23 = .ok (.getfield 7, 3) := by decide +kernel
theorem dX6_adds_26 : decode cX6_adds 26 = .ok (.aload_n 0, 1) := by decide +kernel
theorem dX6_adds_27 : decode cX6_adds 27 = .ok (.aload_n 0, 1) := by decide +kernel
theorem dX6_adds_28 : decode cX6_adds 28 = .ok (.getfield 7, 3) := by decide +kernel
theorem dX6_adds_31 : decode cX6_adds 31 = .ok (.iconst 1, 1) := by decide +kernel
theorem dX6_adds_32 : decode cX6_adds 32 = .ok (.iaload, 1) := by decide +kernel
theorem dX6_adds_33 : decode cX6_adds 33 = .ok (.iload_n 1, 1) := by decide +kernel
theorem dX6_adds_34 : decode cX6_adds 34 = .ok (.iconst 0, 1) := by decide +kernel
theorem dX6_adds_35 : decode cX6_adds 35 = .ok (.invokevirtual 56, 3) := by decide +kernel
theorem dX6_adds_38 : decode cX6_adds 38 = .ok (.iload_n 1, 1) := by decide +kernel
theorem dX6_adds_39 : decode cX6_adds 39 = .ok (.iastore, 1) := by decide +kernel
theorem dX6_adds_40 : decode cX6_adds 40 = .ok (.aload_n 0, 1) := by decide +kernel
theorem dX6_adds_41 : decode cX6_adds 41 = .ok (.getfield 7, 3) := by decide +kernel
theorem dX6_adds_44 : decode cX6_adds 44 = .ok (.aload_n 0, 1) := by decide +kernel
theorem dX6_adds_45 : decode cX6_adds 45 = .ok (.aload_n 0, 1) := by decide +kernel
theorem dX6_adds_46 : decode cX6_adds 46 = .ok (.getfield 7, 3) := by decide +kernel
theorem dX6_adds_49 : decode cX6_adds 49 = .ok (.iconst 1, 1) := by decide +kernel
theorem dX6_adds_50 : decode cX6_adds 50 = .ok (.iaload, 1) := by decide +kernel
theorem dX6_adds_51 : decode cX6_adds 51 = .ok (.iload_n 1, 1) := by decide +kernel
theorem dX6_adds_52 : decode cX6_adds 52 = .ok (.iconst 1, 1) := by decide +kernel
theorem dX6_adds_53 : decode cX6_adds 53 = .ok (.invokevirtual 56, 3) := by decide +kernel
theorem dX6_adds_56 : decode cX6_adds 56 = .ok (.iconst 0, 1) := by decide +kernel
theorem dX6_adds_57 : decode cX6_adds 57 = .ok (.iastore, 1) := by decide +kernel
theorem dX6_adds_58 : decode cX6_adds 58 = .ok (.aload_n 0, 1) := by decide +kernel
theorem dX6_adds_59 : decode cX6_adds 59 = .ok (.getfield 7, 3) := by decide +kernel
theorem dX6_adds_62 : decode cX6_adds 62 = .ok (.aload_n 0, 1) := by decide +kernel
theorem dX6_adds_63 : decode cX6_adds 63 = .ok (.aload_n 0, 1) := by decide +kernel
theorem dX6_adds_64 : decode cX6_adds 64 = .ok (.getfield 7, 3) := by decide +kernel
theorem dX6_adds_67 : decode cX6_adds 67 = .ok (.iconst 1, 1) := by decide +kernel
theorem dX6_adds_68 : decode cX6_adds 68 = .ok (.iaload, 1) := by decide +kernel
theorem dX6_adds_69 : decode cX6_adds 69 = .ok (.iload_n 1, 1) := by decide +kernel
theorem dX6_adds_70 : decode cX6_adds 70 = .ok (.iconst 2, 1) := by decide +kernel
theorem dX6_adds_71 : decode cX6_adds 71 = .ok (.invokevirtual 56, 3) := by decide +kernel
theorem dX6_adds_74 : decode cX6_adds 74 = .ok (.iconst 0, 1) := by decide +kernel
theorem dX6_adds_75 : decode cX6_adds 75 = .ok (.iastore, 1) := by decide +kernel
theorem dX6_adds_76 : decode cX6_adds 76 = .ok (.iinc 1 1, 3) := by decide +kernel
theorem dX6_adds_79 : decode cX6_adds 79 = .ok (.goto (-63), 3) := by decide +kernel
theorem dX6_adds_82 : decode cX6_adds 82 = .ok (.aload_n 0, 1) := by decide +kernel
theorem dX6_adds_83 : decode cX6_adds 83 = .ok (.getfield 7, 3) := by decide +kernel
theorem dX6_adds_86 : decode cX6_adds 86 = .ok (.iconst 1, 1) := by decide +kernel
theorem dX6_adds_87 : decode cX6_adds 87 = .ok (.dup2, 1) := by decide +kernel
theorem dX6_adds_88 : decode cX6_adds 88 = .ok (.iaload, 1) := by decide +kernel
theorem dX6_adds_89 : decode cX6_adds 89 = .ok (.iconst 1, 1) := by decide +kernel
theorem dX6_adds_90 : decode cX6_adds 90 = .ok (.iadd, 1) := by decide +kernel
theorem dX6_adds_91 : decode cX6_adds 91 = .ok (.iastore, 1) := by decide +kernel
theorem dX6_adds_92 : decode cX6_adds 92 = .ok (.aload_n 0, 1) := by decide +kernel
theorem dX6_adds_93 : decode cX6_adds 93 = .ok (.getfield 7, 3) := by decide +kernel
theorem dX6_adds_96 : decode cX6_adds 96 = .ok (.iconst 1, 1) := by decide +kernel
theorem dX6_adds_97 : decode cX6_adds 97 = .ok (.iaload, 1) := by decide +kernel
theorem dX6_adds_98 : decode cX6_adds 98 = .ok (.iconst 1, 1) := by decide +kernel
theorem dX6_adds_99 : decode cX6_adds 99 = .ok (.isub, 1) := by decide +kernel
theorem dX6_adds_100 : decode cX6_adds 100 = .ok (.ireturn, 1) := by decide +kernel
theorem dX6_setsAt_0 : decode cX6_setsAt 0 = .ok (.aload_n 0, 1) := by decide +kernel
theorem dX6_setsAt_1 : decode cX6_setsAt 1 = .ok (.iload_n 1, 1) := by decide +kernel
theorem dX6_setsAt_2 : decode cX6_setsAt 2 = .ok (.invokevirtual 60, 3) := by decide +kernel
theorem dX6_setsAt_5 : decode cX6_setsAt 5 = .ok (.ifCond .eq 22, 3) := by decide +kernel
theorem dX6_setsAt_8 : decode cX6_setsAt 8 = .ok (.iload_n 2, 1) := by decide +kernel
theorem dX6_setsAt_9 : decode cX6_setsAt 9 = .ok (.invokestatic 52, 3) := by decide +kernel
theorem dX6_setsAt_12 : decode cX6_setsAt 12 = .ok (.ifCond .eq 15, 3) := by decide +kernel
theorem dX6_setsAt_15 : decode cX6_setsAt 15 = .ok (.iload 4, 2) := by decide +kernel
theorem dX6_setsAt_17 : decode cX6_setsAt 17 = .ok (.iconst 0, 1) := by decide +kernel
theorem dX6_setsAt_18 : decode cX6_setsAt 18 = .ok (.iconst 4, 1) := by decide +kernel
theorem dX6_setsAt_19 : decode cX6_setsAt 19 = .ok (.iload_n 3, 1) := by decide +kernel
theorem dX6_setsAt_20 : decode cX6_setsAt 20 = .ok (.isub, 1) := by decide +kernel
theorem dX6_setsAt_21 : decode cX6_setsAt 21 = .ok (.invokestatic 48, 3) := by decide +kernel
theorem dX6_setsAt_24 : decode cX6_setsAt 24 = .ok (.ifCond .ne 6, 3) := by decide +kernel
theorem dX6_setsAt_27 : decode cX6_setsAt 27 = .ok (.bipush (-2), 2) := by decide +kernel
theorem dX6_setsAt_29 : decode cX6_setsAt 29 = .ok (.ireturn, 1) := by decide +kernel
theorem dX6_setsAt_30 : decode cX6_setsAt 30 = .ok (.aload_n 0, 1) := by decide +kernel
theorem dX6_setsAt_31 : decode cX6_setsAt 31 = .ok (.getfield 7, 3) := by decide +kernel
theorem dX6_setsAt_34 : decode cX6_setsAt 34 = .ok (.aload_n 0, 1) := by decide +kernel
theorem dX6_setsAt_35 : decode cX6_setsAt 35 = .ok (.iload_n 1, 1) := by decide +kernel
theorem dX6_setsAt_36 : decode cX6_setsAt 36 = .ok (.iload_n 2, 1) := by decide +kernel
theorem dX6_setsAt_37 : decode cX6_setsAt 37 = .ok (.iload_n 3, 1) := by decide +kernel
theorem dX6_setsAt_38 : decode cX6_setsAt 38 = .ok (.invokevirtual 56, 3) := by decide +kernel
theorem dX6_setsAt_41 : decode cX6_setsAt 41 = .ok (.iaload, 1) := by decide +kernel
theorem dX6_setsAt_42 : decode cX6_setsAt 42 = .ok (.istore 5, 2) := by decide +kernel
theorem dX6_setsAt_44 : decode cX6_setsAt 44 = .ok (.aload_n 0, 1) := by decide +kernel
theorem dX6_setsAt_45 : decode cX6_setsAt 45 = .ok (.getfield 7, 3) := by decide +kernel
theorem dX6_setsAt_48 : decode cX6_setsAt 48 = .ok (.aload_n 0, 1) := by decide +kernel
theorem dX6_setsAt_49 : decode cX6_setsAt 49 = .ok (.iload_n 1, 1) := by decide +kernel
theorem dX6_setsAt_50 : decode cX6_setsAt 50 = .ok (.iload_n 2, 1) := by decide +kernel
theorem dX6_setsAt_51 : decode cX6_setsAt 51 = .ok (.iload_n 3, 1) := by decide +kernel
theorem dX6_setsAt_52 : decode cX6_setsAt 52 = .ok (.invokevirtual 56, 3) := by decide +kernel
theorem dX6_setsAt_55 : decode cX6_setsAt 55 = .ok (.iload 4, 2) := by decide +kernel
theorem dX6_setsAt_57 : decode cX6_setsAt 57 = .ok (.iastore, 1) := by decide +kernel
theorem dX6_setsAt_58 : decode cX6_setsAt 58 = .ok (.iload 5, 2) := by decide +kernel
theorem dX6_setsAt_60 : decode cX6_setsAt 60 = .ok (.ireturn, 1) := by decide +kernel
theorem dX6_fits_0 : decode cX6_fits 0 = .ok (.iconst 1, 1) := by decide +kernel
theorem dX6_fits_1 : decode cX6_fits 1 = .ok (.istore_n 2, 1) := by decide +kernel
theorem dX6_fits_2 : decode cX6_fits 2 = .ok (.iconst 0, 1) := by decide +kernel
theorem dX6_fits_3 : decode cX6_fits 3 = .ok (.istore_n 3, 1) := by decide +kernel
theorem dX6_fits_4 : decode cX6_fits 4 = .ok (.iload_n 3, 1) := by decide +kernel
theorem dX6_fits_5 : decode cX6_fits 5 = .ok (.bipush 12, 2) := by decide +kernel
theorem dX6_fits_7 : decode cX6_fits 7 = .ok (.if_icmp .ge 65, 3) := by decide +kernel
theorem dX6_fits_10 : decode cX6_fits 10 = .ok (.aload_n 0, 1) := by decide +kernel
theorem dX6_fits_11 : decode cX6_fits 11 = .ok (.getfield 7, 3) := by decide +kernel
theorem dX6_fits_14 : decode cX6_fits 14 = .ok (.aload_n 0, 1) := by decide +kernel
theorem dX6_fits_15 : decode cX6_fits 15 = .ok (.iload_n 1, 1) := by decide +kernel
theorem dX6_fits_16 : decode cX6_fits 16 = .ok (.iload_n 3, 1) := by decide +kernel
theorem dX6_fits_17 : decode cX6_fits 17 = .ok (.iconst 2, 1) := by decide +kernel
theorem dX6_fits_18 : decode cX6_fits 18 = .ok (.invokevirtual 56, 3) := by decide +kernel
theorem dX6_fits_21 : decode cX6_fits 21 = .ok (.iaload, 1) := by decide +kernel
theorem dX6_fits_22 : decode cX6_fits 22 = .ok (.istore 4, 2) := by decide +kernel
theorem dX6_fits_24 : decode cX6_fits 24 = .ok (.iload_n 2, 1) := by decide +kernel
theorem dX6_fits_25 : decode cX6_fits 25 = .ok (.ifCond .eq 39, 3) := by decide +kernel
theorem dX6_fits_28 : decode cX6_fits 28 = .ok (.iload 4, 2) := by decide +kernel
theorem dX6_fits_30 : decode cX6_fits 30 = .ok (.ifCond .eq 30, 3) := by decide +kernel
theorem dX6_fits_33 : decode cX6_fits 33 = .ok (.iload 4, 2) := by decide +kernel
theorem dX6_fits_35 : decode cX6_fits 35 = .ok (.iconst 1, 1) := by decide +kernel
theorem dX6_fits_36 : decode cX6_fits 36 = .ok (.if_icmp .ne 7, 3) := by decide +kernel
theorem dX6_fits_39 : decode cX6_fits 39 = .ok (.iconst 1, 1) := by decide +kernel
theorem dX6_fits_40 : decode cX6_fits 40 = .ok (.goto 4, 3) := by decide +kernel
theorem dX6_fits_43 : decode cX6_fits 43 = .ok (.iconst 0, 1) := by decide +kernel
theorem dX6_fits_44 : decode cX6_fits 44 = .ok (.aload_n 0, 1) := by decide +kernel
theorem dX6_fits_45 : decode cX6_fits 45 = .ok (.iload_n 3, 1) := by decide +kernel
theorem dX6_fits_46 : decode cX6_fits 46 = .ok (.invokevirtual 63, 3) := by decide +kernel
theorem dX6_fits_49 : decode cX6_fits 49 = .ok (.ifCond .lt 7, 3) := by decide +kernel
theorem dX6_fits_52 : decode cX6_fits 52 = .ok (.iconst 1, 1) := by decide +kernel
theorem dX6_fits_53 : decode cX6_fits 53 = .ok (.goto 4, 3) := by decide +kernel
theorem dX6_fits_56 : decode cX6_fits 56 = .ok (.iconst 0, 1) := by decide +kernel
theorem dX6_fits_57 : decode cX6_fits 57 = .ok (.if_icmp .ne 7, 3) := by decide +kernel
theorem dX6_fits_60 : decode cX6_fits 60 = .ok (.iconst 1, 1) := by decide +kernel
theorem dX6_fits_61 : decode cX6_fits 61 = .ok (.goto 4, 3) := by decide +kernel
theorem dX6_fits_64 : decode cX6_fits 64 = .ok (.iconst 0, 1) := by decide +kernel
theorem dX6_fits_65 : decode cX6_fits 65 = .ok (.istore_n 2, 1) := by decide +kernel
theorem dX6_fits_66 : decode cX6_fits 66 = .ok (.iinc 3 1, 3) := by decide +kernel
theorem dX6_fits_69 : decode cX6_fits 69 = .ok (.goto (-65), 3) := by decide +kernel
theorem dX6_fits_72 : decode cX6_fits 72 = .ok (.iload_n 2, 1) := by decide +kernel
theorem dX6_fits_73 : decode cX6_fits 73 = .ok (.ireturn, 1) := by decide +kernel
theorem dX6_moves_0 : decode cX6_moves 0 = .ok (.iconst 0, 1) := by decide +kernel
theorem dX6_moves_1 : decode cX6_moves 1 = .ok (.istore_n 2, 1) := by decide +kernel
theorem dX6_moves_2 : decode cX6_moves 2 = .ok (.iconst 0, 1) := by decide +kernel
theorem dX6_moves_3 : decode cX6_moves 3 = .ok (.istore_n 3, 1) := by decide +kernel
theorem dX6_moves_4 : decode cX6_moves 4 = .ok (.iload_n 3, 1) := by decide +kernel
theorem dX6_moves_5 : decode cX6_moves 5 = .ok (.aload_n 0, 1) := by decide +kernel
theorem dX6_moves_6 : decode cX6_moves 6 = .ok (.getfield 7, 3) := by decide +kernel
theorem dX6_moves_9 : decode cX6_moves 9 = .ok (.iconst 0, 1) := by decide +kernel
theorem dX6_moves_10 : decode cX6_moves 10 = .ok (.iaload, 1) := by decide +kernel
theorem dX6_moves_11 : decode cX6_moves 11 = .ok (.if_icmp .ge 122, 3) := by decide +kernel
theorem dX6_moves_14 : decode cX6_moves 14 = .ok (.aload_n 0, 1) := by decide +kernel
theorem dX6_moves_15 : decode cX6_moves 15 = .ok (.getfield 7, 3) := by decide +kernel
theorem dX6_moves_18 : decode cX6_moves 18 = .ok (.iconst 4, 1) := by decide +kernel
theorem dX6_moves_19 : decode cX6_moves 19 = .ok (.iconst 4, 1) := by decide +kernel
theorem dX6_moves_20 : decode cX6_moves 20 = .ok (.iload_n 3, 1) := by decide +kernel
theorem dX6_moves_21 : decode cX6_moves 21 = .ok (.imul, 1) := by decide +kernel
theorem dX6_moves_22 : decode cX6_moves 22 = .ok (.iadd, 1) := by decide +kernel
theorem dX6_moves_23 : decode cX6_moves 23 = .ok (.iaload, 1) := by decide +kernel
theorem dX6_moves_24 : decode cX6_moves 24 = .ok (.istore 4, 2) := by decide +kernel
theorem dX6_moves_26 : decode cX6_moves 26 = .ok (.aload_n 0, 1) := by decide +kernel
theorem dX6_moves_27 : decode cX6_moves 27 = .ok (.getfield 7, 3) := by decide +kernel
theorem dX6_moves_30 : decode cX6_moves 30 = .ok (.iconst 5, 1) := by decide +kernel
theorem dX6_moves_31 : decode cX6_moves 31 = .ok (.iconst 4, 1) := by decide +kernel
theorem dX6_moves_32 : decode cX6_moves 32 = .ok (.iload_n 3, 1) := by decide +kernel
theorem dX6_moves_33 : decode cX6_moves 33 = .ok (.imul, 1) := by decide +kernel
theorem dX6_moves_34 : decode cX6_moves 34 = .ok (.iadd, 1) := by decide +kernel
theorem dX6_moves_35 : decode cX6_moves 35 = .ok (.iaload, 1) := by decide +kernel
theorem dX6_moves_36 : decode cX6_moves 36 = .ok (.istore 5, 2) := by decide +kernel
theorem dX6_moves_38 : decode cX6_moves 38 = .ok (.aload_n 0, 1) := by decide +kernel
theorem dX6_moves_39 : decode cX6_moves 39 = .ok (.getfield 7, 3) := by decide +kernel
theorem dX6_moves_42 : decode cX6_moves 42 = .ok (.iconst 4, 1) := by decide +kernel
theorem dX6_moves_43 : decode cX6_moves 43 = .ok (.iconst 4, 1) := by decide +kernel
theorem dX6_moves_44 : decode cX6_moves 44 = .ok (.iload_n 3, 1) := by decide +kernel
theorem dX6_moves_45 : decode cX6_moves 45 = .ok (.imul, 1) := by decide +kernel
theorem dX6_moves_46 : decode cX6_moves 46 = .ok (.iadd, 1) := by decide +kernel
theorem dX6_moves_47 : decode cX6_moves 47 = .ok (.aload_n 0, 1) := by decide +kernel
theorem dX6_moves_48 : decode cX6_moves 48 = .ok (.getfield 7, 3) := by decide +kernel
theorem dX6_moves_51 : decode cX6_moves 51 = .ok (.aload_n 0, 1) := by decide +kernel
theorem dX6_moves_52 : decode cX6_moves 52 = .ok (.iload_n 1, 1) := by decide +kernel
theorem dX6_moves_53 : decode cX6_moves 53 = .ok (.iload 4, 2) := by decide +kernel
theorem dX6_moves_55 : decode cX6_moves 55 = .ok (.iconst 0, 1) := by decide +kernel
theorem dX6_moves_56 : decode cX6_moves 56 = .ok (.invokevirtual 56, 3) := by decide +kernel
theorem dX6_moves_59 : decode cX6_moves 59 = .ok (.iaload, 1) := by decide +kernel
theorem dX6_moves_60 : decode cX6_moves 60 = .ok (.iastore, 1) := by decide +kernel
theorem dX6_moves_61 : decode cX6_moves 61 = .ok (.aload_n 0, 1) := by decide +kernel
theorem dX6_moves_62 : decode cX6_moves 62 = .ok (.getfield 7, 3) := by decide +kernel
theorem dX6_moves_65 : decode cX6_moves 65 = .ok (.iconst 5, 1) := by decide +kernel
theorem dX6_moves_66 : decode cX6_moves 66 = .ok (.iconst 4, 1) := by decide +kernel
theorem dX6_moves_67 : decode cX6_moves 67 = .ok (.iload_n 3, 1) := by decide +kernel
theorem dX6_moves_68 : decode cX6_moves 68 = .ok (.imul, 1) := by decide +kernel
theorem dX6_moves_69 : decode cX6_moves 69 = .ok (.iadd, 1) := by decide +kernel
theorem dX6_moves_70 : decode cX6_moves 70 = .ok (.iload 5, 2) := by decide +kernel
theorem dX6_moves_72 : decode cX6_moves 72 = .ok (.aload_n 0, 1) := by decide +kernel
theorem dX6_moves_73 : decode cX6_moves 73 = .ok (.getfield 7, 3) := by decide +kernel
theorem dX6_moves_76 : decode cX6_moves 76 = .ok (.aload_n 0, 1) := by decide +kernel
theorem dX6_moves_77 : decode cX6_moves 77 = .ok (.iload_n 1, 1) := by decide +kernel
theorem dX6_moves_78 : decode cX6_moves 78 = .ok (.iload 4, 2) := by decide +kernel
theorem dX6_moves_80 : decode cX6_moves 80 = .ok (.iconst 1, 1) := by decide +kernel
theorem dX6_moves_81 : decode cX6_moves 81 = .ok (.invokevirtual 56, 3) := by decide +kernel
theorem dX6_moves_84 : decode cX6_moves 84 = .ok (.iaload, 1) := by decide +kernel
theorem dX6_moves_85 : decode cX6_moves 85 = .ok (.iadd, 1) := by decide +kernel
theorem dX6_moves_86 : decode cX6_moves 86 = .ok (.iconst 4, 1) := by decide +kernel
theorem dX6_moves_87 : decode cX6_moves 87 = .ok (.irem, 1) := by decide +kernel
theorem dX6_moves_88 : decode cX6_moves 88 = .ok (.iastore, 1) := by decide +kernel
theorem dX6_moves_89 : decode cX6_moves 89 = .ok (.iload_n 2, 1) := by decide +kernel
theorem dX6_moves_90 : decode cX6_moves 90 = .ok (.aload_n 0, 1) := by decide +kernel
theorem dX6_moves_91 : decode cX6_moves 91 = .ok (.getfield 7, 3) := by decide +kernel
theorem dX6_moves_94 : decode cX6_moves 94 = .ok (.iconst 4, 1) := by decide +kernel
theorem dX6_moves_95 : decode cX6_moves 95 = .ok (.iconst 4, 1) := by decide +kernel
theorem dX6_moves_96 : decode cX6_moves 96 = .ok (.iload_n 3, 1) := by decide +kernel
theorem dX6_moves_97 : decode cX6_moves 97 = .ok (.imul, 1) := by decide +kernel
theorem dX6_moves_98 : decode cX6_moves 98 = .ok (.iadd, 1) := by decide +kernel
theorem dX6_moves_99 : decode cX6_moves 99 = .ok (.iaload, 1) := by decide +kernel
theorem dX6_moves_100 : decode cX6_moves 100 = .ok (.iload 4, 2) := by decide +kernel
theorem dX6_moves_102 : decode cX6_moves 102 = .ok (.if_icmp .ne 18, 3) := by decide +kernel
theorem dX6_moves_105 : decode cX6_moves 105 = .ok (.aload_n 0, 1) := by decide +kernel
theorem dX6_moves_106 : decode cX6_moves 106 = .ok (.getfield 7, 3) := by decide +kernel
theorem dX6_moves_109 : decode cX6_moves 109 = .ok (.iconst 5, 1) := by decide +kernel
theorem dX6_moves_110 : decode cX6_moves 110 = .ok (.iconst 4, 1) := by decide +kernel
theorem dX6_moves_111 : decode cX6_moves 111 = .ok (.iload_n 3, 1) := by decide +kernel
theorem dX6_moves_112 : decode cX6_moves 112 = .ok (.imul, 1) := by decide +kernel
theorem dX6_moves_113 : decode cX6_moves 113 = .ok (.iadd, 1) := by decide +kernel
theorem dX6_moves_114 : decode cX6_moves 114 = .ok (.iaload, 1) := by decide +kernel
theorem dX6_moves_115 : decode cX6_moves 115 = .ok (.iload 5, 2) := by decide +kernel
theorem dX6_moves_117 : decode cX6_moves 117 = .ok (.if_icmp .eq 7, 3) := by decide +kernel
theorem dX6_moves_120 : decode cX6_moves 120 = .ok (.iconst 1, 1) := by decide +kernel
theorem dX6_moves_121 : decode cX6_moves 121 = .ok (.goto 4, 3) := by decide +kernel
theorem dX6_moves_124 : decode cX6_moves 124 = .ok (.iconst 0, 1) := by decide +kernel
theorem dX6_moves_125 : decode cX6_moves 125 = .ok (.iadd, 1) := by decide +kernel
theorem dX6_moves_126 : decode cX6_moves 126 = .ok (.istore_n 2, 1) := by decide +kernel
theorem dX6_moves_127 : decode cX6_moves 127 = .ok (.iinc 3 1, 3) := by decide +kernel
theorem dX6_moves_130 : decode cX6_moves 130 = .ok (.goto (-126), 3) := by decide +kernel
theorem dX6_moves_133 : decode cX6_moves 133 = .ok (.iload_n 2, 1) := by decide +kernel
theorem dX6_moves_134 : decode cX6_moves 134 = .ok (.ireturn, 1) := by decide +kernel
theorem dX6_given_0 : decode cX6_given 0 = .ok (.aload_n 0, 1) := by decide +kernel
theorem dX6_given_1 : decode cX6_given 1 = .ok (.iload_n 1, 1) := by decide +kernel
theorem dX6_given_2 : decode cX6_given 2 = .ok (.invokevirtual 60, 3) := by decide +kernel
theorem dX6_given_5 : decode cX6_given 5 = .ok (.ifCond .ne 6, 3) := by decide +kernel
theorem dX6_given_8 : decode cX6_given 8 = .ok (.bipush (-2), 2) := by decide +kernel
theorem dX6_given_10 : decode cX6_given 10 = .ok (.ireturn, 1) := by decide +kernel
theorem dX6_given_11 : decode cX6_given 11 = .ok (.aload_n 0, 1) := by decide +kernel
theorem dX6_given_12 : decode cX6_given 12 = .ok (.iload_n 1, 1) := by decide +kernel
theorem dX6_given_13 : decode cX6_given 13 = .ok (.invokevirtual 66, 3) := by decide +kernel
theorem dX6_given_16 : decode cX6_given 16 = .ok (.ifCond .ne 6, 3) := by decide +kernel
theorem dX6_given_19 : decode cX6_given 19 = .ok (.bipush (-3), 2) := by decide +kernel
theorem dX6_given_21 : decode cX6_given 21 = .ok (.ireturn, 1) := by decide +kernel
theorem dX6_given_22 : decode cX6_given 22 = .ok (.aload_n 0, 1) := by decide +kernel
theorem dX6_given_23 : decode cX6_given 23 = .ok (.getfield 7, 3) := by decide +kernel
theorem dX6_given_26 : decode cX6_given 26 = .ok (.iconst 3, 1) := by decide +kernel
theorem dX6_given_27 : decode cX6_given 27 = .ok (.dup2, 1) := by decide +kernel
theorem dX6_given_28 : decode cX6_given 28 = .ok (.iaload, 1) := by decide +kernel
theorem dX6_given_29 : decode cX6_given 29 = .ok (.iconst 1, 1) := by decide +kernel
theorem dX6_given_30 : decode cX6_given 30 = .ok (.iadd, 1) := by decide +kernel
theorem dX6_given_31 : decode cX6_given 31 = .ok (.iastore, 1) := by decide +kernel
theorem dX6_given_32 : decode cX6_given 32 = .ok (.aload_n 0, 1) := by decide +kernel
theorem dX6_given_33 : decode cX6_given 33 = .ok (.iload_n 1, 1) := by decide +kernel
theorem dX6_given_34 : decode cX6_given 34 = .ok (.invokevirtual 69, 3) := by decide +kernel
theorem dX6_given_37 : decode cX6_given 37 = .ok (.ireturn, 1) := by decide +kernel
theorem dX6_plansOn_0 : decode cX6_plansOn 0 = .ok (.aload_n 0, 1) := by decide +kernel
theorem dX6_plansOn_1 : decode cX6_plansOn 1 = .ok (.iload_n 1, 1) := by decide +kernel
theorem dX6_plansOn_2 : decode cX6_plansOn 2 = .ok (.invokevirtual 60, 3) := by decide +kernel
theorem dX6_plansOn_5 : decode cX6_plansOn 5 = .ok (.ifCond .ne 6, 3) := by decide +kernel
theorem dX6_plansOn_8 : decode cX6_plansOn 8 = .ok (.bipush (-2), 2) := by decide +kernel
theorem dX6_plansOn_10 : decode cX6_plansOn 10 = .ok (.ireturn, 1) := by decide +kernel
theorem dX6_plansOn_11 : decode cX6_plansOn 11 = .ok (.aload_n 0, 1) := by decide +kernel
theorem dX6_plansOn_12 : decode cX6_plansOn 12 = .ok (.getfield 7, 3) := by decide +kernel
theorem dX6_plansOn_15 : decode cX6_plansOn 15 = .ok (.iconst 2, 1) := by decide +kernel
theorem dX6_plansOn_16 : decode cX6_plansOn 16 = .ok (.iaload, 1) := by decide +kernel
theorem dX6_plansOn_17 : decode cX6_plansOn 17 = .ok (.bipush 12, 2) := by decide +kernel
theorem dX6_plansOn_19 : decode cX6_plansOn 19 = .ok (.if_icmp .ne 6, 3) := by decide +kernel
theorem dX6_plansOn_22 : decode cX6_plansOn 22 = .ok (.bipush (-4), 2) := by decide +kernel
theorem dX6_plansOn_24 : decode cX6_plansOn 24 = .ok (.ireturn, 1) := by decide +kernel
theorem dX6_plansOn_25 : decode cX6_plansOn 25 = .ok (.aload_n 0, 1) := by decide +kernel
theorem dX6_plansOn_26 : decode cX6_plansOn 26 = .ok (.getfield 7, 3) := by decide +kernel
theorem dX6_plansOn_29 : decode cX6_plansOn 29 = .ok (.sipush 324, 3) := by decide +kernel
theorem dX6_plansOn_32 : decode cX6_plansOn 32 = .ok (.aload_n 0, 1) := by decide +kernel
theorem dX6_plansOn_33 : decode cX6_plansOn 33 = .ok (.getfield 7, 3) := by decide +kernel
theorem dX6_plansOn_36 : decode cX6_plansOn 36 = .ok (.iconst 2, 1) := by decide +kernel
theorem dX6_plansOn_37 : decode cX6_plansOn 37 = .ok (.iaload, 1) := by decide +kernel
theorem dX6_plansOn_38 : decode cX6_plansOn 38 = .ok (.iadd, 1) := by decide +kernel
theorem dX6_plansOn_39 : decode cX6_plansOn 39 = .ok (.iload_n 1, 1) := by decide +kernel
theorem dX6_plansOn_40 : decode cX6_plansOn 40 = .ok (.iastore, 1) := by decide +kernel
theorem dX6_plansOn_41 : decode cX6_plansOn 41 = .ok (.aload_n 0, 1) := by decide +kernel
theorem dX6_plansOn_42 : decode cX6_plansOn 42 = .ok (.getfield 7, 3) := by decide +kernel
theorem dX6_plansOn_45 : decode cX6_plansOn 45 = .ok (.iconst 2, 1) := by decide +kernel
theorem dX6_plansOn_46 : decode cX6_plansOn 46 = .ok (.dup2, 1) := by decide +kernel
theorem dX6_plansOn_47 : decode cX6_plansOn 47 = .ok (.iaload, 1) := by decide +kernel
theorem dX6_plansOn_48 : decode cX6_plansOn 48 = .ok (.iconst 1, 1) := by decide +kernel
theorem dX6_plansOn_49 : decode cX6_plansOn 49 = .ok (.iadd, 1) := by decide +kernel
theorem dX6_plansOn_50 : decode cX6_plansOn 50 = .ok (.iastore, 1) := by decide +kernel
theorem dX6_plansOn_51 : decode cX6_plansOn 51 = .ok (.aload_n 0, 1) := by decide +kernel
theorem dX6_plansOn_52 : decode cX6_plansOn 52 = .ok (.getfield 7, 3) := by decide +kernel
theorem dX6_plansOn_55 : decode cX6_plansOn 55 = .ok (.iconst 2, 1) := by decide +kernel
theorem dX6_plansOn_56 : decode cX6_plansOn 56 = .ok (.iaload, 1) := by decide +kernel
theorem dX6_plansOn_57 : decode cX6_plansOn 57 = .ok (.ireturn, 1) := by decide +kernel
theorem dX6_dancer_0 : decode cX6_dancer 0 = .ok (.aload_n 0, 1) := by decide +kernel
theorem dX6_dancer_1 : decode cX6_dancer 1 = .ok (.invokevirtual 72, 3) := by decide +kernel
theorem dX6_dancer_4 : decode cX6_dancer 4 = .ok (.aload_n 0, 1) := by decide +kernel
theorem dX6_dancer_5 : decode cX6_dancer 5 = .ok (.aload_n 0, 1) := by decide +kernel
theorem dX6_dancer_6 : decode cX6_dancer 6 = .ok (.iload_n 1, 1) := by decide +kernel
theorem dX6_dancer_7 : decode cX6_dancer 7 = .ok (.iload_n 2, 1) := by decide +kernel
theorem dX6_dancer_8 : decode cX6_dancer 8 = .ok (.invokevirtual 75, 3) := by decide +kernel
theorem dX6_dancer_11 : decode cX6_dancer 11 = .ok (.invokevirtual 79, 3) := by decide +kernel
theorem dX6_dancer_14 : decode cX6_dancer 14 = .ok (.ireturn, 1) := by decide +kernel
theorem dX6_call_0 : decode cX6_call 0 = .ok (.aload_n 0, 1) := by decide +kernel
theorem dX6_call_1 : decode cX6_call 1 = .ok (.invokevirtual 72, 3) := by decide +kernel
theorem dX6_call_4 : decode cX6_call 4 = .ok (.aload_n 0, 1) := by decide +kernel
theorem dX6_call_5 : decode cX6_call 5 = .ok (.aload_n 0, 1) := by decide +kernel
theorem dX6_call_6 : decode cX6_call 6 = .ok (.invokevirtual 82, 3) := by decide +kernel
theorem dX6_call_9 : decode cX6_call 9 = .ok (.invokevirtual 79, 3) := by decide +kernel
theorem dX6_call_12 : decode cX6_call 12 = .ok (.ireturn, 1) := by decide +kernel
theorem dX6_exchanges_0 : decode cX6_exchanges 0 = .ok (.aload_n 0, 1) := by decide +kernel
theorem dX6_exchanges_1 : decode cX6_exchanges 1 = .ok (.iload_n 1, 1) := by decide +kernel
theorem dX6_exchanges_2 : decode cX6_exchanges 2 = .ok (.invokevirtual 60, 3) := by decide +kernel
theorem dX6_exchanges_5 : decode cX6_exchanges 5 = .ok (.ifCond .eq 22, 3) := by decide +kernel
theorem dX6_exchanges_8 : decode cX6_exchanges 8 = .ok (.iload_n 2, 1) := by decide +kernel
theorem dX6_exchanges_9 : decode cX6_exchanges 9 = .ok (.invokestatic 52, 3) := by decide +kernel
theorem dX6_exchanges_12 : decode cX6_exchanges 12 = .ok (.ifCond .eq 15, 3) := by decide +kernel
theorem dX6_exchanges_15 : decode cX6_exchanges 15 = .ok (.iload_n 3, 1) := by decide +kernel
theorem dX6_exchanges_16 : decode cX6_exchanges 16 = .ok (.invokestatic 52, 3) := by decide +kernel
theorem dX6_exchanges_19 : decode cX6_exchanges 19 = .ok (.ifCond .eq 8, 3) := by decide +kernel
theorem dX6_exchanges_22 : decode cX6_exchanges 22 = .ok (.iload_n 2, 1) := by decide +kernel
theorem dX6_exchanges_23 : decode cX6_exchanges 23 = .ok (.iload_n 3, 1) := by decide +kernel
theorem dX6_exchanges_24 : decode cX6_exchanges 24 = .ok (.if_icmp .ne 10, 3) := by decide +kernel
theorem dX6_exchanges_27 : decode cX6_exchanges 27 = .ok (.aload_n 0, 1) := by decide +kernel
theorem dX6_exchanges_28 : decode cX6_exchanges 28 = .ok (.bipush (-2), 2) := by decide +kernel
theorem dX6_exchanges_30 : decode cX6_exchanges 30 = .ok (.invokevirtual 38, 3) := by decide +kernel
theorem dX6_exchanges_33 : decode cX6_exchanges 33 = .ok (.ireturn, 1) := by decide +kernel
theorem dX6_exchanges_34 : decode cX6_exchanges 34 = .ok (.aload_n 0, 1) := by decide +kernel
theorem dX6_exchanges_35 : decode cX6_exchanges 35 = .ok (.invokevirtual 45, 3) := by decide +kernel
theorem dX6_exchanges_38 : decode cX6_exchanges 38 = .ok (.aload_n 0, 1) := by decide +kernel
theorem dX6_exchanges_39 : decode cX6_exchanges 39 = .ok (.getfield 7, 3) := by decide +kernel
theorem dX6_exchanges_42 : decode cX6_exchanges 42 = .ok (.aload_n 0, 1) := by decide +kernel
theorem dX6_exchanges_43 : decode cX6_exchanges 43 = .ok (.iload_n 1, 1) := by decide +kernel
theorem dX6_exchanges_44 : decode cX6_exchanges 44 = .ok (.iload_n 2, 1) := by decide +kernel
theorem dX6_exchanges_45 : decode cX6_exchanges 45 = .ok (.iconst 0, 1) := by decide +kernel
theorem dX6_exchanges_46 : decode cX6_exchanges 46 = .ok (.invokevirtual 56, 3) := by decide +kernel
theorem dX6_exchanges_49 : decode cX6_exchanges 49 = .ok (.iaload, 1) := by decide +kernel
theorem dX6_exchanges_50 : decode cX6_exchanges 50 = .ok (.istore 4, 2) := by decide +kernel
theorem dX6_exchanges_52 : decode cX6_exchanges 52 = .ok (.aload_n 0, 1) := by decide +kernel
theorem dX6_exchanges_53 : decode cX6_exchanges 53 = .ok (.getfield 7, 3) := by decide +kernel
theorem dX6_exchanges_56 : decode cX6_exchanges 56 = .ok (.aload_n 0, 1) := by decide +kernel
theorem dX6_exchanges_57 : decode cX6_exchanges 57 = .ok (.iload_n 1, 1) := by decide +kernel
theorem dX6_exchanges_58 : decode cX6_exchanges 58 = .ok (.iload_n 2, 1) := by decide +kernel
theorem dX6_exchanges_59 : decode cX6_exchanges 59 = .ok (.iconst 0, 1) := by decide +kernel
theorem dX6_exchanges_60 : decode cX6_exchanges 60 = .ok (.invokevirtual 56, 3) := by decide +kernel
theorem dX6_exchanges_63 : decode cX6_exchanges 63 = .ok (.aload_n 0, 1) := by decide +kernel
theorem dX6_exchanges_64 : decode cX6_exchanges 64 = .ok (.getfield 7, 3) := by decide +kernel
theorem dX6_exchanges_67 : decode cX6_exchanges 67 = .ok (.aload_n 0, 1) := by decide +kernel
theorem dX6_exchanges_68 : decode cX6_exchanges 68 = .ok (.iload_n 1, 1) := by decide +kernel
theorem dX6_exchanges_69 : decode cX6_exchanges 69 = .ok (.iload_n 3, 1) := by decide +kernel
theorem dX6_exchanges_70 : decode cX6_exchanges 70 = .ok (.iconst 0, 1) := by decide +kernel
theorem dX6_exchanges_71 : decode cX6_exchanges 71 = .ok (.invokevirtual 56, 3) := by decide +kernel
theorem dX6_exchanges_74 : decode cX6_exchanges 74 = .ok (.iaload, 1) := by decide +kernel
theorem dX6_exchanges_75 : decode cX6_exchanges 75 = .ok (.iastore, 1) := by decide +kernel
theorem dX6_exchanges_76 : decode cX6_exchanges 76 = .ok (.aload_n 0, 1) := by decide +kernel
theorem dX6_exchanges_77 : decode cX6_exchanges 77 = .ok (.getfield 7, 3) := by decide +kernel
theorem dX6_exchanges_80 : decode cX6_exchanges 80 = .ok (.aload_n 0, 1) := by decide +kernel
theorem dX6_exchanges_81 : decode cX6_exchanges 81 = .ok (.iload_n 1, 1) := by decide +kernel
theorem dX6_exchanges_82 : decode cX6_exchanges 82 = .ok (.iload_n 3, 1) := by decide +kernel
theorem dX6_exchanges_83 : decode cX6_exchanges 83 = .ok (.iconst 0, 1) := by decide +kernel
theorem dX6_exchanges_84 : decode cX6_exchanges 84 = .ok (.invokevirtual 56, 3) := by decide +kernel
theorem dX6_exchanges_87 : decode cX6_exchanges 87 = .ok (.iload 4, 2) := by decide +kernel
theorem dX6_exchanges_89 : decode cX6_exchanges 89 = .ok (.iastore, 1) := by decide +kernel
theorem dX6_exchanges_90 : decode cX6_exchanges 90 = .ok (.aload_n 0, 1) := by decide +kernel
theorem dX6_exchanges_91 : decode cX6_exchanges 91 = .ok (.getfield 7, 3) := by decide +kernel
theorem dX6_exchanges_94 : decode cX6_exchanges 94 = .ok (.aload_n 0, 1) := by decide +kernel
theorem dX6_exchanges_95 : decode cX6_exchanges 95 = .ok (.iload_n 1, 1) := by decide +kernel
theorem dX6_exchanges_96 : decode cX6_exchanges 96 = .ok (.iload_n 2, 1) := by decide +kernel
theorem dX6_exchanges_97 : decode cX6_exchanges 97 = .ok (.iconst 0, 1) := by decide +kernel
theorem dX6_exchanges_98 : decode cX6_exchanges 98 = .ok (.invokevirtual 56, 3) := by decide +kernel
theorem dX6_exchanges_101 : decode cX6_exchanges 101 = .ok (.iaload, 1) := by decide +kernel
theorem dX6_exchanges_102 : decode cX6_exchanges 102 = .ok (.ireturn, 1) := by decide +kernel
theorem dX6_turns_0 : decode cX6_turns 0 = .ok (.aload_n 0, 1) := by decide +kernel
theorem dX6_turns_1 : decode cX6_turns 1 = .ok (.invokevirtual 72, 3) := by decide +kernel
theorem dX6_turns_4 : decode cX6_turns 4 = .ok (.aload_n 0, 1) := by decide +kernel
theorem dX6_turns_5 : decode cX6_turns 5 = .ok (.aload_n 0, 1) := by decide +kernel
theorem dX6_turns_6 : decode cX6_turns 6 = .ok (.iload_n 1, 1) := by decide +kernel
theorem dX6_turns_7 : decode cX6_turns 7 = .ok (.iload_n 2, 1) := by decide +kernel
theorem dX6_turns_8 : decode cX6_turns 8 = .ok (.iconst 1, 1) := by decide +kernel
theorem dX6_turns_9 : decode cX6_turns 9 = .ok (.iload_n 3, 1) := by decide +kernel
theorem dX6_turns_10 : decode cX6_turns 10 = .ok (.invokevirtual 86, 3) := by decide +kernel
theorem dX6_turns_13 : decode cX6_turns 13 = .ok (.invokevirtual 79, 3) := by decide +kernel
theorem dX6_turns_16 : decode cX6_turns 16 = .ok (.ireturn, 1) := by decide +kernel
theorem dX6_wants_0 : decode cX6_wants 0 = .ok (.aload_n 0, 1) := by decide +kernel
theorem dX6_wants_1 : decode cX6_wants 1 = .ok (.invokevirtual 72, 3) := by decide +kernel
theorem dX6_wants_4 : decode cX6_wants 4 = .ok (.aload_n 0, 1) := by decide +kernel
theorem dX6_wants_5 : decode cX6_wants 5 = .ok (.aload_n 0, 1) := by decide +kernel
theorem dX6_wants_6 : decode cX6_wants 6 = .ok (.iload_n 1, 1) := by decide +kernel
theorem dX6_wants_7 : decode cX6_wants 7 = .ok (.iload_n 2, 1) := by decide +kernel
theorem dX6_wants_8 : decode cX6_wants 8 = .ok (.iconst 2, 1) := by decide +kernel
theorem dX6_wants_9 : decode cX6_wants 9 = .ok (.iload_n 3, 1) := by decide +kernel
theorem dX6_wants_10 : decode cX6_wants 10 = .ok (.invokevirtual 86, 3) := by decide +kernel
theorem dX6_wants_13 : decode cX6_wants 13 = .ok (.invokevirtual 79, 3) := by decide +kernel
theorem dX6_wants_16 : decode cX6_wants 16 = .ok (.ireturn, 1) := by decide +kernel
theorem dX6_joins_0 : decode cX6_joins 0 = .ok (.aload_n 0, 1) := by decide +kernel
theorem dX6_joins_1 : decode cX6_joins 1 = .ok (.iload_n 1, 1) := by decide +kernel
theorem dX6_joins_2 : decode cX6_joins 2 = .ok (.invokevirtual 60, 3) := by decide +kernel
theorem dX6_joins_5 : decode cX6_joins 5 = .ok (.ifCond .eq 11, 3) := by decide +kernel
theorem dX6_joins_8 : decode cX6_joins 8 = .ok (.aload_n 0, 1) := by decide +kernel
theorem dX6_joins_9 : decode cX6_joins 9 = .ok (.iload_n 2, 1) := by decide +kernel
theorem dX6_joins_10 : decode cX6_joins 10 = .ok (.invokevirtual 60, 3) := by decide +kernel
theorem dX6_joins_13 : decode cX6_joins 13 = .ok (.ifCond .ne 10, 3) := by decide +kernel
theorem dX6_joins_16 : decode cX6_joins 16 = .ok (.aload_n 0, 1) := by decide +kernel
theorem dX6_joins_17 : decode cX6_joins 17 = .ok (.bipush (-2), 2) := by decide +kernel
theorem dX6_joins_19 : decode cX6_joins 19 = .ok (.invokevirtual 38, 3) := by decide +kernel
theorem dX6_joins_22 : decode cX6_joins 22 = .ok (.ireturn, 1) := by decide +kernel
theorem dX6_joins_23 : decode cX6_joins 23 = .ok (.iconst 0, 1) := by decide +kernel
theorem dX6_joins_24 : decode cX6_joins 24 = .ok (.istore_n 3, 1) := by decide +kernel
theorem dX6_joins_25 : decode cX6_joins 25 = .ok (.iload_n 3, 1) := by decide +kernel
theorem dX6_joins_26 : decode cX6_joins 26 = .ok (.bipush 12, 2) := by decide +kernel
theorem dX6_joins_28 : decode cX6_joins 28 = .ok (.if_icmp .ge 72, 3) := by decide +kernel
theorem dX6_joins_31 : decode cX6_joins 31 = .ok (.aload_n 0, 1) := by decide +kernel
theorem dX6_joins_32 : decode cX6_joins 32 = .ok (.getfield 7, 3) := by decide +kernel
theorem dX6_joins_35 : decode cX6_joins 35 = .ok (.aload_n 0, 1) := by decide +kernel
theorem dX6_joins_36 : decode cX6_joins 36 = .ok (.iload_n 1, 1) := by decide +kernel
theorem dX6_joins_37 : decode cX6_joins 37 = .ok (.iload_n 3, 1) := by decide +kernel
theorem dX6_joins_38 : decode cX6_joins 38 = .ok (.iconst 2, 1) := by decide +kernel
theorem dX6_joins_39 : decode cX6_joins 39 = .ok (.invokevirtual 56, 3) := by decide +kernel
theorem dX6_joins_42 : decode cX6_joins 42 = .ok (.iaload, 1) := by decide +kernel
theorem dX6_joins_43 : decode cX6_joins 43 = .ok (.istore 4, 2) := by decide +kernel
theorem dX6_joins_45 : decode cX6_joins 45 = .ok (.aload_n 0, 1) := by decide +kernel
theorem dX6_joins_46 : decode cX6_joins 46 = .ok (.getfield 7, 3) := by decide +kernel
theorem dX6_joins_49 : decode cX6_joins 49 = .ok (.aload_n 0, 1) := by decide +kernel
theorem dX6_joins_50 : decode cX6_joins 50 = .ok (.iload_n 2, 1) := by decide +kernel
theorem dX6_joins_51 : decode cX6_joins 51 = .ok (.aload_n 0, 1) := by decide +kernel
theorem dX6_joins_52 : decode cX6_joins 52 = .ok (.getfield 7, 3) := by decide +kernel
theorem dX6_joins_55 : decode cX6_joins 55 = .ok (.aload_n 0, 1) := by decide +kernel
theorem dX6_joins_56 : decode cX6_joins 56 = .ok (.iload_n 1, 1) := by decide +kernel
theorem dX6_joins_57 : decode cX6_joins 57 = .ok (.iload_n 3, 1) := by decide +kernel
theorem dX6_joins_58 : decode cX6_joins 58 = .ok (.iconst 0, 1) := by decide +kernel
theorem dX6_joins_59 : decode cX6_joins 59 = .ok (.invokevirtual 56, 3) := by decide +kernel
theorem dX6_joins_62 : decode cX6_joins 62 = .ok (.iaload, 1) := by decide +kernel
theorem dX6_joins_63 : decode cX6_joins 63 = .ok (.iconst 2, 1) := by decide +kernel
theorem dX6_joins_64 : decode cX6_joins 64 = .ok (.invokevirtual 56, 3) := by decide +kernel
theorem dX6_joins_67 : decode cX6_joins 67 = .ok (.iaload, 1) := by decide +kernel
theorem dX6_joins_68 : decode cX6_joins 68 = .ok (.istore 5, 2) := by decide +kernel
theorem dX6_joins_70 : decode cX6_joins 70 = .ok (.iload 4, 2) := by decide +kernel
theorem dX6_joins_72 : decode cX6_joins 72 = .ok (.ifCond .eq 22, 3) := by decide +kernel
theorem dX6_joins_75 : decode cX6_joins 75 = .ok (.iload 5, 2) := by decide +kernel
theorem dX6_joins_77 : decode cX6_joins 77 = .ok (.ifCond .eq 17, 3) := by decide +kernel
theorem dX6_joins_80 : decode cX6_joins 80 = .ok (.iload 4, 2) := by decide +kernel
theorem dX6_joins_82 : decode cX6_joins 82 = .ok (.iload 5, 2) := by decide +kernel
theorem dX6_joins_84 : decode cX6_joins 84 = .ok (.if_icmp .eq 10, 3) := by decide +kernel
theorem dX6_joins_87 : decode cX6_joins 87 = .ok (.aload_n 0, 1) := by decide +kernel
theorem dX6_joins_88 : decode cX6_joins 88 = .ok (.bipush (-3), 2) := by decide +kernel
theorem dX6_joins_90 : decode cX6_joins 90 = .ok (.invokevirtual 38, 3) := by decide +kernel
theorem dX6_joins_93 : decode cX6_joins 93 = .ok (.ireturn, 1) := by decide +kernel
theorem dX6_joins_94 : decode cX6_joins 94 = .ok (.iinc 3 1, 3) := by decide +kernel
theorem dX6_joins_97 : decode cX6_joins 97 = .ok (.goto (-72), 3) := by decide +kernel
theorem dX6_joins_100 : decode cX6_joins 100 = .ok (.aload_n 0, 1) := by decide +kernel
theorem dX6_joins_101 : decode cX6_joins 101 = .ok (.getfield 7, 3) := by decide +kernel
theorem dX6_joins_104 : decode cX6_joins 104 = .ok (.iconst 1, 1) := by decide +kernel
theorem dX6_joins_105 : decode cX6_joins 105 = .ok (.iaload, 1) := by decide +kernel
theorem dX6_joins_106 : decode cX6_joins 106 = .ok (.bipush 8, 2) := by decide +kernel
theorem dX6_joins_108 : decode cX6_joins 108 = .ok (.if_icmp .ne 10, 3) := by decide +kernel
theorem dX6_joins_111 : decode cX6_joins 111 = .ok (.aload_n 0, 1) := by decide +kernel
theorem dX6_joins_112 : decode cX6_joins 112 = .ok (.bipush (-4), 2) := by decide +kernel
theorem dX6_joins_114 : decode cX6_joins 114 = .ok (.invokevirtual 38, 3) := by decide +kernel
theorem dX6_joins_117 : decode cX6_joins 117 = .ok (.ireturn, 1) := by decide +kernel
theorem dX6_joins_118 : decode cX6_joins 118 = .ok (.aload_n 0, 1) := by decide +kernel
theorem dX6_joins_119 : decode cX6_joins 119 = .ok (.invokevirtual 45, 3) := by decide +kernel
theorem dX6_joins_122 : decode cX6_joins 122 = .ok (.aload_n 0, 1) := by decide +kernel
theorem dX6_joins_123 : decode cX6_joins 123 = .ok (.invokevirtual 82, 3) := by decide +kernel
theorem dX6_joins_126 : decode cX6_joins 126 = .ok (.istore_n 3, 1) := by decide +kernel
theorem dX6_joins_127 : decode cX6_joins 127 = .ok (.iconst 0, 1) := by decide +kernel
theorem dX6_joins_128 : decode cX6_joins 128 = .ok (.istore 4, 2) := by decide +kernel
theorem dX6_joins_130 : decode cX6_joins 130 = .ok (.iload 4, 2) := by decide +kernel
theorem dX6_joins_132 : decode cX6_joins 132 = .ok (.bipush 12, 2) := by decide +kernel
theorem dX6_joins_134 : decode cX6_joins 134 = .ok (.if_icmp .ge 143, 3) := by decide +kernel
theorem dX6_joins_137 : decode cX6_joins 137 = .ok (.aload_n 0, 1) := by decide +kernel
theorem dX6_joins_138 : decode cX6_joins 138 = .ok (.getfield 7, 3) := by decide +kernel
theorem dX6_joins_141 : decode cX6_joins 141 = .ok (.aload_n 0, 1) := by decide +kernel
theorem dX6_joins_142 : decode cX6_joins 142 = .ok (.iload_n 1, 1) := by decide +kernel
theorem dX6_joins_143 : decode cX6_joins 143 = .ok (.iload 4, 2) := by decide +kernel
theorem dX6_joins_145 : decode cX6_joins 145 = .ok (.iconst 0, 1) := by decide +kernel
theorem dX6_joins_146 : decode cX6_joins 146 = .ok (.invokevirtual 56, 3) := by decide +kernel
theorem dX6_joins_149 : decode cX6_joins 149 = .ok (.iaload, 1) := by decide +kernel
theorem dX6_joins_150 : decode cX6_joins 150 = .ok (.istore 5, 2) := by decide +kernel
theorem dX6_joins_152 : decode cX6_joins 152 = .ok (.aload_n 0, 1) := by decide +kernel
theorem dX6_joins_153 : decode cX6_joins 153 = .ok (.getfield 7, 3) := by decide +kernel
theorem dX6_joins_156 : decode cX6_joins 156 = .ok (.aload_n 0, 1) := by decide +kernel
theorem dX6_joins_157 : decode cX6_joins 157 = .ok (.iload_n 1, 1) := by decide +kernel
theorem dX6_joins_158 : decode cX6_joins 158 = .ok (.iload 4, 2) := by decide +kernel
theorem dX6_joins_160 : decode cX6_joins 160 = .ok (.iconst 2, 1) := by decide +kernel
theorem dX6_joins_161 : decode cX6_joins 161 = .ok (.invokevirtual 56, 3) := by decide +kernel
theorem dX6_joins_164 : decode cX6_joins 164 = .ok (.iaload, 1) := by decide +kernel
theorem dX6_joins_165 : decode cX6_joins 165 = .ok (.istore 6, 2) := by decide +kernel
theorem dX6_joins_167 : decode cX6_joins 167 = .ok (.aload_n 0, 1) := by decide +kernel
theorem dX6_joins_168 : decode cX6_joins 168 = .ok (.getfield 7, 3) := by decide +kernel
theorem dX6_joins_171 : decode cX6_joins 171 = .ok (.aload_n 0, 1) := by decide +kernel
theorem dX6_joins_172 : decode cX6_joins 172 = .ok (.iload_n 3, 1) := by decide +kernel
theorem dX6_joins_173 : decode cX6_joins 173 = .ok (.iload 4, 2) := by decide +kernel
theorem dX6_joins_175 : decode cX6_joins 175 = .ok (.iconst 0, 1) := by decide +kernel
theorem dX6_joins_176 : decode cX6_joins 176 = .ok (.invokevirtual 56, 3) := by decide +kernel
theorem dX6_joins_179 : decode cX6_joins 179 = .ok (.aload_n 0, 1) := by decide +kernel
theorem dX6_joins_180 : decode cX6_joins 180 = .ok (.getfield 7, 3) := by decide +kernel
theorem dX6_joins_183 : decode cX6_joins 183 = .ok (.aload_n 0, 1) := by decide +kernel
theorem dX6_joins_184 : decode cX6_joins 184 = .ok (.iload_n 2, 1) := by decide +kernel
theorem dX6_joins_185 : decode cX6_joins 185 = .ok (.iload 5, 2) := by decide +kernel
theorem dX6_joins_187 : decode cX6_joins 187 = .ok (.iconst 0, 1) := by decide +kernel
theorem dX6_joins_188 : decode cX6_joins 188 = .ok (.invokevirtual 56, 3) := by decide +kernel
theorem dX6_joins_191 : decode cX6_joins 191 = .ok (.iaload, 1) := by decide +kernel
theorem dX6_joins_192 : decode cX6_joins 192 = .ok (.iastore, 1) := by decide +kernel
theorem dX6_joins_193 : decode cX6_joins 193 = .ok (.aload_n 0, 1) := by decide +kernel
theorem dX6_joins_194 : decode cX6_joins 194 = .ok (.getfield 7, 3) := by decide +kernel
theorem dX6_joins_197 : decode cX6_joins 197 = .ok (.aload_n 0, 1) := by decide +kernel
theorem dX6_joins_198 : decode cX6_joins 198 = .ok (.iload_n 3, 1) := by decide +kernel
theorem dX6_joins_199 : decode cX6_joins 199 = .ok (.iload 4, 2) := by decide +kernel
theorem dX6_joins_201 : decode cX6_joins 201 = .ok (.iconst 1, 1) := by decide +kernel
theorem dX6_joins_202 : decode cX6_joins 202 = .ok (.invokevirtual 56, 3) := by decide +kernel
theorem dX6_joins_205 : decode cX6_joins 205 = .ok (.aload_n 0, 1) := by decide +kernel
theorem dX6_joins_206 : decode cX6_joins 206 = .ok (.getfield 7, 3) := by decide +kernel
theorem dX6_joins_209 : decode cX6_joins 209 = .ok (.aload_n 0, 1) := by decide +kernel
theorem dX6_joins_210 : decode cX6_joins 210 = .ok (.iload_n 1, 1) := by decide +kernel
theorem dX6_joins_211 : decode cX6_joins 211 = .ok (.iload 4, 2) := by decide +kernel
theorem dX6_joins_213 : decode cX6_joins 213 = .ok (.iconst 1, 1) := by decide +kernel
theorem dX6_joins_214 : decode cX6_joins 214 = .ok (.invokevirtual 56, 3) := by decide +kernel
theorem dX6_joins_217 : decode cX6_joins 217 = .ok (.iaload, 1) := by decide +kernel
theorem dX6_joins_218 : decode cX6_joins 218 = .ok (.aload_n 0, 1) := by decide +kernel
theorem dX6_joins_219 : decode cX6_joins 219 = .ok (.getfield 7, 3) := by decide +kernel
theorem dX6_joins_222 : decode cX6_joins 222 = .ok (.aload_n 0, 1) := by decide +kernel
theorem dX6_joins_223 : decode cX6_joins 223 = .ok (.iload_n 2, 1) := by decide +kernel
theorem dX6_joins_224 : decode cX6_joins 224 = .ok (.iload 5, 2) := by decide +kernel
theorem dX6_joins_226 : decode cX6_joins 226 = .ok (.iconst 1, 1) := by decide +kernel
theorem dX6_joins_227 : decode cX6_joins 227 = .ok (.invokevirtual 56, 3) := by decide +kernel
theorem dX6_joins_230 : decode cX6_joins 230 = .ok (.iaload, 1) := by decide +kernel
theorem dX6_joins_231 : decode cX6_joins 231 = .ok (.iadd, 1) := by decide +kernel
theorem dX6_joins_232 : decode cX6_joins 232 = .ok (.iconst 4, 1) := by decide +kernel
theorem dX6_joins_233 : decode cX6_joins 233 = .ok (.irem, 1) := by decide +kernel
theorem dX6_joins_234 : decode cX6_joins 234 = .ok (.iastore, 1) := by decide +kernel
theorem dX6_joins_235 : decode cX6_joins 235 = .ok (.aload_n 0, 1) := by decide +kernel
theorem dX6_joins_236 : decode cX6_joins 236 = .ok (.getfield 7, 3) := by decide +kernel
theorem dX6_joins_239 : decode cX6_joins 239 = .ok (.aload_n 0, 1) := by decide +kernel
theorem dX6_joins_240 : decode cX6_joins 240 = .ok (.iload_n 3, 1) := by decide +kernel
theorem dX6_joins_241 : decode cX6_joins 241 = .ok (.iload 4, 2) := by decide +kernel
theorem dX6_joins_243 : decode cX6_joins 243 = .ok (.iconst 2, 1) := by decide +kernel
theorem dX6_joins_244 : decode cX6_joins 244 = .ok (.invokevirtual 56, 3) := by decide +kernel
theorem dX6_joins_247 : decode cX6_joins 247 = .ok (.iload 6, 2) := by decide +kernel
theorem dX6_joins_249 : decode cX6_joins 249 = .ok (.ifCond .eq 8, 3) := by decide +kernel
theorem dX6_joins_252 : decode cX6_joins 252 = .ok (.iload 6, 2) := by decide +kernel
theorem dX6_joins_254 : decode cX6_joins 254 = .ok (.goto 16, 3) := by decide +kernel
theorem dX6_joins_257 : decode cX6_joins 257 = .ok (.aload_n 0, 1) := by decide +kernel
theorem dX6_joins_258 : decode cX6_joins 258 = .ok (.getfield 7, 3) := by decide +kernel
theorem dX6_joins_261 : decode cX6_joins 261 = .ok (.aload_n 0, 1) := by decide +kernel
theorem dX6_joins_262 : decode cX6_joins 262 = .ok (.iload_n 2, 1) := by decide +kernel
theorem dX6_joins_263 : decode cX6_joins 263 = .ok (.iload 5, 2) := by decide +kernel
theorem dX6_joins_265 : decode cX6_joins 265 = .ok (.iconst 2, 1) := by decide +kernel
theorem dX6_joins_266 : decode cX6_joins 266 = .ok (.invokevirtual 56, 3) := by decide +kernel
theorem dX6_joins_269 : decode cX6_joins 269 = .ok (.iaload, 1) := by decide +kernel
theorem dX6_joins_270 : decode cX6_joins 270 = .ok (.iastore, 1) := by decide +kernel
theorem dX6_joins_271 : decode cX6_joins 271 = .ok (.iinc 4 1, 3) := by decide +kernel
theorem dX6_joins_274 : decode cX6_joins 274 = .ok (.goto (-144), 3) := by decide +kernel
theorem dX6_joins_277 : decode cX6_joins 277 = .ok (.iload_n 3, 1) := by decide +kernel
theorem dX6_joins_278 : decode cX6_joins 278 = .ok (.ireturn, 1) := by decide +kernel
theorem dX6_backwards_0 : decode cX6_backwards 0 = .ok (.aload_n 0, 1) := by decide +kernel
theorem dX6_backwards_1 : decode cX6_backwards 1 = .ok (.iload_n 1, 1) := by decide +kernel
theorem dX6_backwards_2 : decode cX6_backwards 2 = .ok (.invokevirtual 60, 3) := by decide +kernel
theorem dX6_backwards_5 : decode cX6_backwards 5 = .ok (.ifCond .ne 10, 3) := by decide +kernel
theorem dX6_backwards_8 : decode cX6_backwards 8 = .ok (.aload_n 0, 1) := by decide +kernel
theorem dX6_backwards_9 : decode cX6_backwards 9 = .ok (.bipush (-2), 2) := by decide +kernel
theorem dX6_backwards_11 : decode cX6_backwards 11 = .ok (.invokevirtual 38, 3) := by decide +kernel
theorem dX6_backwards_14 : decode cX6_backwards 14 = .ok (.ireturn, 1) := by decide +kernel
theorem dX6_backwards_15 : decode cX6_backwards 15 = .ok (.aload_n 0, 1) := by decide +kernel
theorem dX6_backwards_16 : decode cX6_backwards 16 = .ok (.getfield 7, 3) := by decide +kernel
theorem dX6_backwards_19 : decode cX6_backwards 19 = .ok (.iconst 1, 1) := by decide +kernel
theorem dX6_backwards_20 : decode cX6_backwards 20 = .ok (.iaload, 1) := by decide +kernel
theorem dX6_backwards_21 : decode cX6_backwards 21 = .ok (.bipush 8, 2) := by decide +kernel
theorem dX6_backwards_23 : decode cX6_backwards 23 = .ok (.if_icmp .ne 10, 3) := by decide +kernel
theorem dX6_backwards_26 : decode cX6_backwards 26 = .ok (.aload_n 0, 1) := by decide +kernel
theorem dX6_backwards_27 : decode cX6_backwards 27 = .ok (.bipush (-4), 2) := by decide +kernel
theorem dX6_backwards_29 : decode cX6_backwards 29 = .ok (.invokevirtual 38, 3) := by decide +kernel
theorem dX6_backwards_32 : decode cX6_backwards 32 = .ok (.ireturn, 1) := by decide +kernel
theorem dX6_backwards_33 : decode cX6_backwards 33 = .ok (.aload_n 0, 1) := by decide +kernel
theorem dX6_backwards_34 : decode cX6_backwards 34 = .ok (.invokevirtual 45, 3) := by decide +kernel
theorem dX6_backwards_37 : decode cX6_backwards 37 = .ok (.aload_n 0, 1) := by decide +kernel
theorem dX6_backwards_38 : decode cX6_backwards 38 = .ok (.invokevirtual 82, 3) := by decide +kernel
theorem dX6_backwards_41 : decode cX6_backwards 41 = .ok (.istore_n 2, 1) := by decide +kernel
theorem dX6_backwards_42 : decode cX6_backwards 42 = .ok (.iconst 0, 1) := by decide +kernel
theorem dX6_backwards_43 : decode cX6_backwards 43 = .ok (.istore_n 3, 1) := by decide +kernel
theorem dX6_backwards_44 : decode cX6_backwards 44 = .ok (.iload_n 3, 1) := by decide +kernel
theorem dX6_backwards_45 : decode cX6_backwards 45 = .ok (.bipush 12, 2) := by decide +kernel
theorem dX6_backwards_47 : decode cX6_backwards 47 = .ok (.if_icmp .ge 91, 3) := by decide +kernel
theorem dX6_backwards_50 : decode cX6_backwards 50 = .ok (.aload_n 0, 1) := by decide +kernel
theorem dX6_backwards_51 : decode cX6_backwards 51 = .ok (.getfield 7, 3) := by decide +kernel
theorem dX6_backwards_54 : decode cX6_backwards 54 = .ok (.aload_n 0, 1) := by decide +kernel
theorem dX6_backwards_55 : decode cX6_backwards 55 = .ok (.iload_n 1, 1) := by decide +kernel
theorem dX6_backwards_56 : decode cX6_backwards 56 = .ok (.iload_n 3, 1) := by decide +kernel
theorem dX6_backwards_57 : decode cX6_backwards 57 = .ok (.iconst 0, 1) := by decide +kernel
theorem dX6_backwards_58 : decode cX6_backwards 58 = .ok (.invokevirtual 56, 3) := by decide +kernel
theorem dX6_backwards_61 : decode cX6_backwards 61 = .ok (.iaload, 1) := by decide +kernel
theorem dX6_backwards_62 : decode cX6_backwards 62 = .ok (.istore 4, 2) := by decide +kernel
theorem dX6_backwards_64 : decode cX6_backwards 64 = .ok (.aload_n 0, 1) := by decide +kernel
theorem dX6_backwards_65 : decode cX6_backwards 65 = .ok (.getfield 7, 3) := by decide +kernel
theorem dX6_backwards_68 : decode cX6_backwards 68 = .ok (.aload_n 0, 1) := by decide +kernel
theorem dX6_backwards_69 : decode cX6_backwards 69 = .ok (.iload_n 2, 1) := by decide +kernel
theorem dX6_backwards_70 : decode cX6_backwards 70 = .ok (.iload 4, 2) := by decide +kernel
theorem dX6_backwards_72 : decode cX6_backwards 72 = .ok (.iconst 0, 1) := by decide +kernel
theorem dX6_backwards_73 : decode cX6_backwards 73 = .ok (.invokevirtual 56, 3) := by decide +kernel
theorem dX6_backwards_76 : decode cX6_backwards 76 = .ok (.iload_n 3, 1) := by decide +kernel
theorem dX6_backwards_77 : decode cX6_backwards 77 = .ok (.iastore, 1) := by decide +kernel
theorem dX6_backwards_78 : decode cX6_backwards 78 = .ok (.aload_n 0, 1) := by decide +kernel
theorem dX6_backwards_79 : decode cX6_backwards 79 = .ok (.getfield 7, 3) := by decide +kernel
theorem dX6_backwards_82 : decode cX6_backwards 82 = .ok (.aload_n 0, 1) := by decide +kernel
theorem dX6_backwards_83 : decode cX6_backwards 83 = .ok (.iload_n 2, 1) := by decide +kernel
theorem dX6_backwards_84 : decode cX6_backwards 84 = .ok (.iload 4, 2) := by decide +kernel
theorem dX6_backwards_86 : decode cX6_backwards 86 = .ok (.iconst 1, 1) := by decide +kernel
theorem dX6_backwards_87 : decode cX6_backwards 87 = .ok (.invokevirtual 56, 3) := by decide +kernel
theorem dX6_backwards_90 : decode cX6_backwards 90 = .ok (.iconst 4, 1) := by decide +kernel
theorem dX6_backwards_91 : decode cX6_backwards 91 = .ok (.aload_n 0, 1) := by decide +kernel
theorem dX6_backwards_92 : decode cX6_backwards 92 = .ok (.getfield 7, 3) := by decide +kernel
theorem dX6_backwards_95 : decode cX6_backwards 95 = .ok (.aload_n 0, 1) := by decide +kernel
theorem dX6_backwards_96 : decode cX6_backwards 96 = .ok (.iload_n 1, 1) := by decide +kernel
theorem dX6_backwards_97 : decode cX6_backwards 97 = .ok (.iload_n 3, 1) := by decide +kernel
theorem dX6_backwards_98 : decode cX6_backwards 98 = .ok (.iconst 1, 1) := by decide +kernel
theorem dX6_backwards_99 : decode cX6_backwards 99 = .ok (.invokevirtual 56, 3) := by decide +kernel
theorem dX6_backwards_102 : decode cX6_backwards 102 = .ok (.iaload, 1) := by decide +kernel
theorem dX6_backwards_103 : decode cX6_backwards 103 = .ok (.isub, 1) := by decide +kernel
theorem dX6_backwards_104 : decode cX6_backwards 104 = .ok (.iconst 4, 1) := by decide +kernel
theorem dX6_backwards_105 : decode cX6_backwards 105 = .ok (.irem, 1) := by decide +kernel
theorem dX6_backwards_106 : decode cX6_backwards 106 = .ok (.iastore, 1) := by decide +kernel
theorem dX6_backwards_107 : decode cX6_backwards 107 = .ok (.aload_n 0, 1) := by decide +kernel
theorem dX6_backwards_108 : decode cX6_backwards 108 = .ok (.getfield 7, 3) := by decide +kernel
theorem dX6_backwards_111 : decode cX6_backwards 111 = .ok (.aload_n 0, 1) := by decide +kernel
theorem dX6_backwards_112 : decode cX6_backwards 112 = .ok (.iload_n 2, 1) := by decide +kernel
theorem dX6_backwards_113 : decode cX6_backwards 113 = .ok (.iload 4, 2) := by decide +kernel
theorem dX6_backwards_115 : decode cX6_backwards 115 = .ok (.iconst 2, 1) := by decide +kernel
theorem dX6_backwards_116 : decode cX6_backwards 116 = .ok (.invokevirtual 56, 3) := by decide +kernel
theorem dX6_backwards_119 : decode cX6_backwards 119 = .ok (.aload_n 0, 1) := by decide +kernel
theorem dX6_backwards_120 : decode cX6_backwards 120 = .ok (.getfield 7, 3) := by decide +kernel
theorem dX6_backwards_123 : decode cX6_backwards 123 = .ok (.aload_n 0, 1) := by decide +kernel
theorem dX6_backwards_124 : decode cX6_backwards 124 = .ok (.iload_n 1, 1) := by decide +kernel
theorem dX6_backwards_125 : decode cX6_backwards 125 = .ok (.iload_n 3, 1) := by decide +kernel
theorem dX6_backwards_126 : decode cX6_backwards 126 = .ok (.iconst 2, 1) := by decide +kernel
theorem dX6_backwards_127 : decode cX6_backwards 127 = .ok (.invokevirtual 56, 3) := by decide +kernel
theorem dX6_backwards_130 : decode cX6_backwards 130 = .ok (.iaload, 1) := by decide +kernel
theorem dX6_backwards_131 : decode cX6_backwards 131 = .ok (.iastore, 1) := by decide +kernel
theorem dX6_backwards_132 : decode cX6_backwards 132 = .ok (.iinc 3 1, 3) := by decide +kernel
theorem dX6_backwards_135 : decode cX6_backwards 135 = .ok (.goto (-91), 3) := by decide +kernel
theorem dX6_backwards_138 : decode cX6_backwards 138 = .ok (.iload_n 2, 1) := by decide +kernel
theorem dX6_backwards_139 : decode cX6_backwards 139 = .ok (.ireturn, 1) := by decide +kernel
theorem dX6_gives_0 : decode cX6_gives 0 = .ok (.aload_n 0, 1) := by decide +kernel
theorem dX6_gives_1 : decode cX6_gives 1 = .ok (.invokevirtual 72, 3) := by decide +kernel
theorem dX6_gives_4 : decode cX6_gives 4 = .ok (.aload_n 0, 1) := by decide +kernel
theorem dX6_gives_5 : decode cX6_gives 5 = .ok (.aload_n 0, 1) := by decide +kernel
theorem dX6_gives_6 : decode cX6_gives 6 = .ok (.iload_n 1, 1) := by decide +kernel
theorem dX6_gives_7 : decode cX6_gives 7 = .ok (.invokevirtual 90, 3) := by decide +kernel
theorem dX6_gives_10 : decode cX6_gives 10 = .ok (.invokevirtual 79, 3) := by decide +kernel
theorem dX6_gives_13 : decode cX6_gives 13 = .ok (.ireturn, 1) := by decide +kernel
theorem dX6_home_0 : decode cX6_home 0 = .ok (.aload_n 0, 1) := by decide +kernel
theorem dX6_home_1 : decode cX6_home 1 = .ok (.getfield 7, 3) := by decide +kernel
theorem dX6_home_4 : decode cX6_home 4 = .ok (.iconst 0, 1) := by decide +kernel
theorem dX6_home_5 : decode cX6_home 5 = .ok (.iaload, 1) := by decide +kernel
theorem dX6_home_6 : decode cX6_home 6 = .ok (.aload_n 0, 1) := by decide +kernel
theorem dX6_home_7 : decode cX6_home 7 = .ok (.invokevirtual 93, 3) := by decide +kernel
theorem dX6_home_10 : decode cX6_home 10 = .ok (.isub, 1) := by decide +kernel
theorem dX6_home_11 : decode cX6_home 11 = .ok (.istore_n 1, 1) := by decide +kernel
theorem dX6_home_12 : decode cX6_home 12 = .ok (.aload_n 0, 1) := by decide +kernel
theorem dX6_home_13 : decode cX6_home 13 = .ok (.invokevirtual 45, 3) := by decide +kernel
theorem dX6_home_16 : decode cX6_home 16 = .ok (.iconst 0, 1) := by decide +kernel
theorem dX6_home_17 : decode cX6_home 17 = .ok (.istore_n 2, 1) := by decide +kernel
theorem dX6_home_18 : decode cX6_home 18 = .ok (.iload_n 2, 1) := by decide +kernel
theorem dX6_home_19 : decode cX6_home 19 = .ok (.aload_n 0, 1) := by decide +kernel
theorem dX6_home_20 : decode cX6_home 20 = .ok (.getfield 7, 3) := by decide +kernel
theorem dX6_home_23 : decode cX6_home 23 = .ok (.iconst 0, 1) := by decide +kernel
theorem dX6_home_24 : decode cX6_home 24 = .ok (.iaload, 1) := by decide +kernel
theorem dX6_home_25 : decode cX6_home 25 = .ok (.if_icmp .ge 51, 3) := by decide +kernel
theorem dX6_home_28 : decode cX6_home 28 = .ok (.aload_n 0, 1) := by decide +kernel
theorem dX6_home_29 : decode cX6_home 29 = .ok (.getfield 7, 3) := by decide +kernel
theorem dX6_home_32 : decode cX6_home 32 = .ok (.iconst 4, 1) := by decide +kernel
theorem dX6_home_33 : decode cX6_home 33 = .ok (.iconst 4, 1) := by decide +kernel
theorem dX6_home_34 : decode cX6_home 34 = .ok (.iload_n 2, 1) := by decide +kernel
theorem dX6_home_35 : decode cX6_home 35 = .ok (.imul, 1) := by decide +kernel
theorem dX6_home_36 : decode cX6_home 36 = .ok (.iadd, 1) := by decide +kernel
theorem dX6_home_37 : decode cX6_home 37 = .ok (.aload_n 0, 1) := by decide +kernel
theorem dX6_home_38 : decode cX6_home 38 = .ok (.getfield 7, 3) := by decide +kernel
theorem dX6_home_41 : decode cX6_home 41 = .ok (.bipush 6, 2) := by decide +kernel
theorem dX6_home_43 : decode cX6_home 43 = .ok (.iconst 4, 1) := by decide +kernel
theorem dX6_home_44 : decode cX6_home 44 = .ok (.iload_n 2, 1) := by decide +kernel
theorem dX6_home_45 : decode cX6_home 45 = .ok (.imul, 1) := by decide +kernel
theorem dX6_home_46 : decode cX6_home 46 = .ok (.iadd, 1) := by decide +kernel
theorem dX6_home_47 : decode cX6_home 47 = .ok (.iaload, 1) := by decide +kernel
theorem dX6_home_48 : decode cX6_home 48 = .ok (.iastore, 1) := by decide +kernel
theorem dX6_home_49 : decode cX6_home 49 = .ok (.aload_n 0, 1) := by decide +kernel
theorem dX6_home_50 : decode cX6_home 50 = .ok (.getfield 7, 3) := by decide +kernel
theorem dX6_home_53 : decode cX6_home 53 = .ok (.iconst 5, 1) := by decide +kernel
theorem dX6_home_54 : decode cX6_home 54 = .ok (.iconst 4, 1) := by decide +kernel
theorem dX6_home_55 : decode cX6_home 55 = .ok (.iload_n 2, 1) := by decide +kernel
theorem dX6_home_56 : decode cX6_home 56 = .ok (.imul, 1) := by decide +kernel
theorem dX6_home_57 : decode cX6_home 57 = .ok (.iadd, 1) := by decide +kernel
theorem dX6_home_58 : decode cX6_home 58 = .ok (.aload_n 0, 1) := by decide +kernel
theorem dX6_home_59 : decode cX6_home 59 = .ok (.getfield 7, 3) := by decide +kernel
theorem dX6_home_62 : decode cX6_home 62 = .ok (.bipush 7, 2) := by decide +kernel
theorem dX6_home_64 : decode cX6_home 64 = .ok (.iconst 4, 1) := by decide +kernel
theorem dX6_home_65 : decode cX6_home 65 = .ok (.iload_n 2, 1) := by decide +kernel
theorem dX6_home_66 : decode cX6_home 66 = .ok (.imul, 1) := by decide +kernel
theorem dX6_home_67 : decode cX6_home 67 = .ok (.iadd, 1) := by decide +kernel
theorem dX6_home_68 : decode cX6_home 68 = .ok (.iaload, 1) := by decide +kernel
theorem dX6_home_69 : decode cX6_home 69 = .ok (.iastore, 1) := by decide +kernel
theorem dX6_home_70 : decode cX6_home 70 = .ok (.iinc 2 1, 3) := by decide +kernel
theorem dX6_home_73 : decode cX6_home 73 = .ok (.goto (-55), 3) := by decide +kernel
theorem dX6_home_76 : decode cX6_home 76 = .ok (.iload_n 1, 1) := by decide +kernel
theorem dX6_home_77 : decode cX6_home 77 = .ok (.ireturn, 1) := by decide +kernel
theorem dX6_plans_0 : decode cX6_plans 0 = .ok (.aload_n 0, 1) := by decide +kernel
theorem dX6_plans_1 : decode cX6_plans 1 = .ok (.invokevirtual 72, 3) := by decide +kernel
theorem dX6_plans_4 : decode cX6_plans 4 = .ok (.aload_n 0, 1) := by decide +kernel
theorem dX6_plans_5 : decode cX6_plans 5 = .ok (.aload_n 0, 1) := by decide +kernel
theorem dX6_plans_6 : decode cX6_plans 6 = .ok (.iload_n 1, 1) := by decide +kernel
theorem dX6_plans_7 : decode cX6_plans 7 = .ok (.invokevirtual 96, 3) := by decide +kernel
theorem dX6_plans_10 : decode cX6_plans 10 = .ok (.invokevirtual 79, 3) := by decide +kernel
theorem dX6_plans_13 : decode cX6_plans 13 = .ok (.ireturn, 1) := by decide +kernel
theorem dX6_scraps_0 : decode cX6_scraps 0 = .ok (.aload_n 0, 1) := by decide +kernel
theorem dX6_scraps_1 : decode cX6_scraps 1 = .ok (.getfield 7, 3) := by decide +kernel
theorem dX6_scraps_4 : decode cX6_scraps 4 = .ok (.iconst 2, 1) := by decide +kernel
theorem dX6_scraps_5 : decode cX6_scraps 5 = .ok (.iaload, 1) := by decide +kernel
theorem dX6_scraps_6 : decode cX6_scraps 6 = .ok (.istore_n 1, 1) := by decide +kernel
theorem dX6_scraps_7 : decode cX6_scraps 7 = .ok (.aload_n 0, 1) := by decide +kernel
theorem dX6_scraps_8 : decode cX6_scraps 8 = .ok (.invokevirtual 45, 3) := by decide +kernel
theorem dX6_scraps_11 : decode cX6_scraps 11 = .ok (.aload_n 0, 1) := by decide +kernel
theorem dX6_scraps_12 : decode cX6_scraps 12 = .ok (.getfield 7, 3) := by decide +kernel
theorem dX6_scraps_15 : decode cX6_scraps 15 = .ok (.iconst 2, 1) := by decide +kernel
theorem dX6_scraps_16 : decode cX6_scraps 16 = .ok (.iconst 0, 1) := by decide +kernel
theorem dX6_scraps_17 : decode cX6_scraps 17 = .ok (.iastore, 1) := by decide +kernel
theorem dX6_scraps_18 : decode cX6_scraps 18 = .ok (.iload_n 1, 1) := by decide +kernel
theorem dX6_scraps_19 : decode cX6_scraps 19 = .ok (.ireturn, 1) := by decide +kernel
theorem dX6_back_0 : decode cX6_back 0 = .ok (.aload_n 0, 1) := by decide +kernel
theorem dX6_back_1 : decode cX6_back 1 = .ok (.getfield 42, 3) := by decide +kernel
theorem dX6_back_4 : decode cX6_back 4 = .ok (.ifCond .ne 10, 3) := by decide +kernel
theorem dX6_back_7 : decode cX6_back 7 = .ok (.aload_n 0, 1) := by decide +kernel
theorem dX6_back_8 : decode cX6_back 8 = .ok (.bipush (-3), 2) := by decide +kernel
theorem dX6_back_10 : decode cX6_back 10 = .ok (.invokevirtual 38, 3) := by decide +kernel
theorem dX6_back_13 : decode cX6_back 13 = .ok (.ireturn, 1) := by decide +kernel
theorem dX6_back_14 : decode cX6_back 14 = .ok (.aload_n 0, 1) := by decide +kernel
theorem dX6_back_15 : decode cX6_back 15 = .ok (.dup, 1) := by decide +kernel
theorem dX6_back_16 : decode cX6_back 16 = .ok (.getfield 42, 3) := by decide +kernel
theorem dX6_back_19 : decode cX6_back 19 = .ok (.iconst 1, 1) := by decide +kernel
theorem dX6_back_20 : decode cX6_back 20 = .ok (.isub, 1) := by decide +kernel
theorem dX6_back_21 : decode cX6_back 21 = .ok (.putfield 42, 3) := by decide +kernel
theorem dX6_back_24 : decode cX6_back 24 = .ok (.iconst 0, 1) := by decide +kernel
theorem dX6_back_25 : decode cX6_back 25 = .ok (.istore_n 1, 1) := by decide +kernel
theorem dX6_back_26 : decode cX6_back 26 = .ok (.iload_n 1, 1) := by decide +kernel
theorem dX6_back_27 : decode cX6_back 27 = .ok (.sipush 336, 3) := by decide +kernel
theorem dX6_back_30 : decode cX6_back 30 = .ok (.if_icmp .ge 30, 3) := by decide +kernel
theorem dX6_back_33 : decode cX6_back 33 = .ok (.aload_n 0, 1) := by decide +kernel
theorem dX6_back_34 : decode cX6_back 34 = .ok (.getfield 7, 3) := by decide +kernel
theorem dX6_back_37 : decode cX6_back 37 = .ok (.iload_n 1, 1) := by decide +kernel
theorem dX6_back_38 : decode cX6_back 38 = .ok (.aload_n 0, 1) := by decide +kernel
theorem dX6_back_39 : decode cX6_back 39 = .ok (.getfield 13, 3) := by decide +kernel
theorem dX6_back_42 : decode cX6_back 42 = .ok (.sipush 336, 3) := by decide +kernel
theorem dX6_back_45 : decode cX6_back 45 = .ok (.aload_n 0, 1) := by decide +kernel
theorem dX6_back_46 : decode cX6_back 46 = .ok (.getfield 42, 3) := by decide +kernel
end
section
theorem dX6_back_49 : decode cX6_back 49 = .ok (.imul, 1) := by decide +kernel
theorem dX6_back_50 : decode cX6_back 50 = .ok (.iload_n 1, 1) := by decide +kernel
theorem dX6_back_51 : decode cX6_back 51 = .ok (.iadd, 1) := by decide +kernel
theorem dX6_back_52 : decode cX6_back 52 = .ok (.iaload, 1) := by decide +kernel
theorem dX6_back_53 : decode cX6_back 53 = .ok (.iastore, 1) := by decide +kernel
theorem dX6_back_54 : decode cX6_back 54 = .ok (.iinc 1 1, 3) := by decide +kernel
theorem dX6_back_57 : decode cX6_back 57 = .ok (.goto (-31), 3) := by decide +kernel
theorem dX6_back_60 : decode cX6_back 60 = .ok (.aload_n 0, 1) := by decide +kernel
theorem dX6_back_61 : decode cX6_back 61 = .ok (.getfield 42, 3) := by decide +kernel
theorem dX6_back_64 : decode cX6_back 64 = .ok (.ireturn, 1) := by decide +kernel
theorem dX6_isHome_0 : decode cX6_isHome 0 = .ok (.aload_n 0, 1) := by decide +kernel
theorem dX6_isHome_1 : decode cX6_isHome 1 = .ok (.getfield 7, 3) := by decide +kernel
theorem dX6_isHome_4 : decode cX6_isHome 4 = .ok (.iconst 4, 1) := by decide +kernel
theorem dX6_isHome_5 : decode cX6_isHome 5 = .ok (.iconst 4, 1) := by decide +kernel
theorem dX6_isHome_6 : decode cX6_isHome 6 = .ok (.iload_n 1, 1) := by decide +kernel
theorem dX6_isHome_7 : decode cX6_isHome 7 = .ok (.imul, 1) := by decide +kernel
theorem dX6_isHome_8 : decode cX6_isHome 8 = .ok (.iadd, 1) := by decide +kernel
theorem dX6_isHome_9 : decode cX6_isHome 9 = .ok (.iaload, 1) := by decide +kernel
theorem dX6_isHome_10 : decode cX6_isHome 10 = .ok (.aload_n 0, 1) := by decide +kernel
theorem dX6_isHome_11 : decode cX6_isHome 11 = .ok (.getfield 7, 3) := by decide +kernel
theorem dX6_isHome_14 : decode cX6_isHome 14 = .ok (.bipush 6, 2) := by decide +kernel
theorem dX6_isHome_16 : decode cX6_isHome 16 = .ok (.iconst 4, 1) := by decide +kernel
theorem dX6_isHome_17 : decode cX6_isHome 17 = .ok (.iload_n 1, 1) := by decide +kernel
theorem dX6_isHome_18 : decode cX6_isHome 18 = .ok (.imul, 1) := by decide +kernel
theorem dX6_isHome_19 : decode cX6_isHome 19 = .ok (.iadd, 1) := by decide +kernel
theorem dX6_isHome_20 : decode cX6_isHome 20 = .ok (.iaload, 1) := by decide +kernel
theorem dX6_isHome_21 : decode cX6_isHome 21 = .ok (.if_icmp .ne 31, 3) := by decide +kernel
theorem dX6_isHome_24 : decode cX6_isHome 24 = .ok (.aload_n 0, 1) := by decide +kernel
theorem dX6_isHome_25 : decode cX6_isHome 25 = .ok (.getfield 7, 3) := by decide +kernel
theorem dX6_isHome_28 : decode cX6_isHome 28 = .ok (.iconst 5, 1) := by decide +kernel
theorem dX6_isHome_29 : decode cX6_isHome 29 = .ok (.iconst 4, 1) := by decide +kernel
theorem dX6_isHome_30 : decode cX6_isHome 30 = .ok (.iload_n 1, 1) := by decide +kernel
theorem dX6_isHome_31 : decode cX6_isHome 31 = .ok (.imul, 1) := by decide +kernel
theorem dX6_isHome_32 : decode cX6_isHome 32 = .ok (.iadd, 1) := by decide +kernel
theorem dX6_isHome_33 : decode cX6_isHome 33 = .ok (.iaload, 1) := by decide +kernel
theorem dX6_isHome_34 : decode cX6_isHome 34 = .ok (.aload_n 0, 1) := by decide +kernel
theorem dX6_isHome_35 : decode cX6_isHome 35 = .ok (.getfield 7, 3) := by decide +kernel
theorem dX6_isHome_38 : decode cX6_isHome 38 = .ok (.bipush 7, 2) := by decide +kernel
theorem dX6_isHome_40 : decode cX6_isHome 40 = .ok (.iconst 4, 1) := by decide +kernel
theorem dX6_isHome_41 : decode cX6_isHome 41 = .ok (.iload_n 1, 1) := by decide +kernel
theorem dX6_isHome_42 : decode cX6_isHome 42 = .ok (.imul, 1) := by decide +kernel
theorem dX6_isHome_43 : decode cX6_isHome 43 = .ok (.iadd, 1) := by decide +kernel
theorem dX6_isHome_44 : decode cX6_isHome 44 = .ok (.iaload, 1) := by decide +kernel
theorem dX6_isHome_45 : decode cX6_isHome 45 = .ok (.if_icmp .ne 7, 3) := by decide +kernel
theorem dX6_isHome_48 : decode cX6_isHome 48 = .ok (.iconst 1, 1) := by decide +kernel
theorem dX6_isHome_49 : decode cX6_isHome 49 = .ok (.goto 4, 3) := by decide +kernel
theorem dX6_isHome_52 : decode cX6_isHome 52 = .ok (.iconst 0, 1) := by decide +kernel
theorem dX6_isHome_53 : decode cX6_isHome 53 = .ok (.ireturn, 1) := by decide +kernel
theorem dX6_atHome_0 : decode cX6_atHome 0 = .ok (.iconst 0, 1) := by decide +kernel
theorem dX6_atHome_1 : decode cX6_atHome 1 = .ok (.istore_n 1, 1) := by decide +kernel
theorem dX6_atHome_2 : decode cX6_atHome 2 = .ok (.iconst 0, 1) := by decide +kernel
theorem dX6_atHome_3 : decode cX6_atHome 3 = .ok (.istore_n 2, 1) := by decide +kernel
theorem dX6_atHome_4 : decode cX6_atHome 4 = .ok (.iload_n 2, 1) := by decide +kernel
theorem dX6_atHome_5 : decode cX6_atHome 5 = .ok (.aload_n 0, 1) := by decide +kernel
theorem dX6_atHome_6 : decode cX6_atHome 6 = .ok (.getfield 7, 3) := by decide +kernel
theorem dX6_atHome_9 : decode cX6_atHome 9 = .ok (.iconst 0, 1) := by decide +kernel
theorem dX6_atHome_10 : decode cX6_atHome 10 = .ok (.iaload, 1) := by decide +kernel
theorem dX6_atHome_11 : decode cX6_atHome 11 = .ok (.if_icmp .ge 25, 3) := by decide +kernel
theorem dX6_atHome_14 : decode cX6_atHome 14 = .ok (.iload_n 1, 1) := by decide +kernel
theorem dX6_atHome_15 : decode cX6_atHome 15 = .ok (.aload_n 0, 1) := by decide +kernel
theorem dX6_atHome_16 : decode cX6_atHome 16 = .ok (.iload_n 2, 1) := by decide +kernel
theorem dX6_atHome_17 : decode cX6_atHome 17 = .ok (.invokevirtual 99, 3) := by decide +kernel
theorem dX6_atHome_20 : decode cX6_atHome 20 = .ok (.ifCond .eq 7, 3) := by decide +kernel
theorem dX6_atHome_23 : decode cX6_atHome 23 = .ok (.iconst 1, 1) := by decide +kernel
theorem dX6_atHome_24 : decode cX6_atHome 24 = .ok (.goto 4, 3) := by decide +kernel
theorem dX6_atHome_27 : decode cX6_atHome 27 = .ok (.iconst 0, 1) := by decide +kernel
theorem dX6_atHome_28 : decode cX6_atHome 28 = .ok (.iadd, 1) := by decide +kernel
theorem dX6_atHome_29 : decode cX6_atHome 29 = .ok (.istore_n 1, 1) := by decide +kernel
theorem dX6_atHome_30 : decode cX6_atHome 30 = .ok (.iinc 2 1, 3) := by decide +kernel
theorem dX6_atHome_33 : decode cX6_atHome 33 = .ok (.goto (-29), 3) := by decide +kernel
theorem dX6_atHome_36 : decode cX6_atHome 36 = .ok (.iload_n 1, 1) := by decide +kernel
theorem dX6_atHome_37 : decode cX6_atHome 37 = .ok (.ireturn, 1) := by decide +kernel
theorem dX6_partner_0 : decode cX6_partner 0 = .ok (.iload_n 1, 1) := by decide +kernel
theorem dX6_partner_1 : decode cX6_partner 1 = .ok (.iconst 2, 1) := by decide +kernel
theorem dX6_partner_2 : decode cX6_partner 2 = .ok (.irem, 1) := by decide +kernel
theorem dX6_partner_3 : decode cX6_partner 3 = .ok (.ifCond .ne 9, 3) := by decide +kernel
theorem dX6_partner_6 : decode cX6_partner 6 = .ok (.iload_n 1, 1) := by decide +kernel
theorem dX6_partner_7 : decode cX6_partner 7 = .ok (.iconst 1, 1) := by decide +kernel
theorem dX6_partner_8 : decode cX6_partner 8 = .ok (.iadd, 1) := by decide +kernel
theorem dX6_partner_9 : decode cX6_partner 9 = .ok (.goto 6, 3) := by decide +kernel
theorem dX6_partner_12 : decode cX6_partner 12 = .ok (.iload_n 1, 1) := by decide +kernel
theorem dX6_partner_13 : decode cX6_partner 13 = .ok (.iconst 1, 1) := by decide +kernel
theorem dX6_partner_14 : decode cX6_partner 14 = .ok (.isub, 1) := by decide +kernel
theorem dX6_partner_15 : decode cX6_partner 15 = .ok (.istore_n 2, 1) := by decide +kernel
theorem dX6_partner_16 : decode cX6_partner 16 = .ok (.iload_n 2, 1) := by decide +kernel
theorem dX6_partner_17 : decode cX6_partner 17 = .ok (.aload_n 0, 1) := by decide +kernel
theorem dX6_partner_18 : decode cX6_partner 18 = .ok (.getfield 7, 3) := by decide +kernel
theorem dX6_partner_21 : decode cX6_partner 21 = .ok (.iconst 0, 1) := by decide +kernel
theorem dX6_partner_22 : decode cX6_partner 22 = .ok (.iaload, 1) := by decide +kernel
theorem dX6_partner_23 : decode cX6_partner 23 = .ok (.if_icmp .ge 7, 3) := by decide +kernel
theorem dX6_partner_26 : decode cX6_partner 26 = .ok (.iload_n 2, 1) := by decide +kernel
theorem dX6_partner_27 : decode cX6_partner 27 = .ok (.goto 4, 3) := by decide +kernel
theorem dX6_partner_30 : decode cX6_partner 30 = .ok (.iconst (-1), 1) := by decide +kernel
theorem dX6_partner_31 : decode cX6_partner 31 = .ok (.ireturn, 1) := by decide +kernel
theorem dX6_arePaired_0 : decode cX6_arePaired 0 = .ok (.aload_n 0, 1) := by decide +kernel
theorem dX6_arePaired_1 : decode cX6_arePaired 1 = .ok (.iload_n 1, 1) := by decide +kernel
theorem dX6_arePaired_2 : decode cX6_arePaired 2 = .ok (.invokevirtual 102, 3) := by decide +kernel
theorem dX6_arePaired_5 : decode cX6_arePaired 5 = .ok (.istore_n 2, 1) := by decide +kernel
theorem dX6_arePaired_6 : decode cX6_arePaired 6 = .ok (.iload_n 2, 1) := by decide +kernel
theorem dX6_arePaired_7 : decode cX6_arePaired 7 = .ok (.ifCond .lt 26, 3) := by decide +kernel
theorem dX6_arePaired_10 : decode cX6_arePaired 10 = .ok (.aload_n 0, 1) := by decide +kernel
theorem dX6_arePaired_11 : decode cX6_arePaired 11 = .ok (.getfield 7, 3) := by decide +kernel
theorem dX6_arePaired_14 : decode cX6_arePaired 14 = .ok (.iconst 5, 1) := by decide +kernel
theorem dX6_arePaired_15 : decode cX6_arePaired 15 = .ok (.iconst 4, 1) := by decide +kernel
theorem dX6_arePaired_16 : decode cX6_arePaired 16 = .ok (.iload_n 1, 1) := by decide +kernel
theorem dX6_arePaired_17 : decode cX6_arePaired 17 = .ok (.imul, 1) := by decide +kernel
theorem dX6_arePaired_18 : decode cX6_arePaired 18 = .ok (.iadd, 1) := by decide +kernel
theorem dX6_arePaired_19 : decode cX6_arePaired 19 = .ok (.iaload, 1) := by decide +kernel
theorem dX6_arePaired_20 : decode cX6_arePaired 20 = .ok (.aload_n 0, 1) := by decide +kernel
theorem dX6_arePaired_21 : decode cX6_arePaired 21 = .ok (.getfield 7, 3) := by decide +kernel
theorem dX6_arePaired_24 : decode cX6_arePaired 24 = .ok (.iconst 5, 1) := by decide +kernel
theorem dX6_arePaired_25 : decode cX6_arePaired 25 = .ok (.iconst 4, 1) := by decide +kernel
theorem dX6_arePaired_26 : decode cX6_arePaired 26 = .ok (.iload_n 2, 1) := by decide +kernel
theorem dX6_arePaired_27 : decode cX6_arePaired 27 = .ok (.imul, 1) := by decide +kernel
theorem dX6_arePaired_28 : decode cX6_arePaired 28 = .ok (.iadd, 1) := by decide +kernel
theorem dX6_arePaired_29 : decode cX6_arePaired 29 = .ok (.iaload, 1) := by decide +kernel
theorem dX6_arePaired_30 : decode cX6_arePaired 30 = .ok (.if_icmp .eq 5, 3) := by decide +kernel
theorem dX6_arePaired_33 : decode cX6_arePaired 33 = .ok (.iconst 0, 1) := by decide +kernel
theorem dX6_arePaired_34 : decode cX6_arePaired 34 = .ok (.ireturn, 1) := by decide +kernel
theorem dX6_arePaired_35 : decode cX6_arePaired 35 = .ok (.aload_n 0, 1) := by decide +kernel
theorem dX6_arePaired_36 : decode cX6_arePaired 36 = .ok (.getfield 7, 3) := by decide +kernel
theorem dX6_arePaired_39 : decode cX6_arePaired 39 = .ok (.iconst 4, 1) := by decide +kernel
theorem dX6_arePaired_40 : decode cX6_arePaired 40 = .ok (.iconst 4, 1) := by decide +kernel
theorem dX6_arePaired_41 : decode cX6_arePaired 41 = .ok (.iload_n 1, 1) := by decide +kernel
theorem dX6_arePaired_42 : decode cX6_arePaired 42 = .ok (.imul, 1) := by decide +kernel
theorem dX6_arePaired_43 : decode cX6_arePaired 43 = .ok (.iadd, 1) := by decide +kernel
theorem dX6_arePaired_44 : decode cX6_arePaired 44 = .ok (.iaload, 1) := by decide +kernel
theorem dX6_arePaired_45 : decode cX6_arePaired 45 = .ok (.istore_n 3, 1) := by decide +kernel
theorem dX6_arePaired_46 : decode cX6_arePaired 46 = .ok (.aload_n 0, 1) := by decide +kernel
theorem dX6_arePaired_47 : decode cX6_arePaired 47 = .ok (.getfield 7, 3) := by decide +kernel
theorem dX6_arePaired_50 : decode cX6_arePaired 50 = .ok (.iconst 4, 1) := by decide +kernel
theorem dX6_arePaired_51 : decode cX6_arePaired 51 = .ok (.iconst 4, 1) := by decide +kernel
theorem dX6_arePaired_52 : decode cX6_arePaired 52 = .ok (.iload_n 2, 1) := by decide +kernel
theorem dX6_arePaired_53 : decode cX6_arePaired 53 = .ok (.imul, 1) := by decide +kernel
theorem dX6_arePaired_54 : decode cX6_arePaired 54 = .ok (.iadd, 1) := by decide +kernel
theorem dX6_arePaired_55 : decode cX6_arePaired 55 = .ok (.iaload, 1) := by decide +kernel
theorem dX6_arePaired_56 : decode cX6_arePaired 56 = .ok (.istore 4, 2) := by decide +kernel
theorem dX6_arePaired_58 : decode cX6_arePaired 58 = .ok (.iload_n 3, 1) := by decide +kernel
theorem dX6_arePaired_59 : decode cX6_arePaired 59 = .ok (.iconst 4, 1) := by decide +kernel
theorem dX6_arePaired_60 : decode cX6_arePaired 60 = .ok (.idiv, 1) := by decide +kernel
theorem dX6_arePaired_61 : decode cX6_arePaired 61 = .ok (.iload 4, 2) := by decide +kernel
theorem dX6_arePaired_63 : decode cX6_arePaired 63 = .ok (.iconst 4, 1) := by decide +kernel
theorem dX6_arePaired_64 : decode cX6_arePaired 64 = .ok (.idiv, 1) := by decide +kernel
theorem dX6_arePaired_65 : decode cX6_arePaired 65 = .ok (.if_icmp .ne 23, 3) := by decide +kernel
theorem dX6_arePaired_68 : decode cX6_arePaired 68 = .ok (.iload_n 3, 1) := by decide +kernel
theorem dX6_arePaired_69 : decode cX6_arePaired 69 = .ok (.iload 4, 2) := by decide +kernel
theorem dX6_arePaired_71 : decode cX6_arePaired 71 = .ok (.isub, 1) := by decide +kernel
theorem dX6_arePaired_72 : decode cX6_arePaired 72 = .ok (.iconst 1, 1) := by decide +kernel
theorem dX6_arePaired_73 : decode cX6_arePaired 73 = .ok (.if_icmp .eq 11, 3) := by decide +kernel
theorem dX6_arePaired_76 : decode cX6_arePaired 76 = .ok (.iload 4, 2) := by decide +kernel
theorem dX6_arePaired_78 : decode cX6_arePaired 78 = .ok (.iload_n 3, 1) := by decide +kernel
theorem dX6_arePaired_79 : decode cX6_arePaired 79 = .ok (.isub, 1) := by decide +kernel
theorem dX6_arePaired_80 : decode cX6_arePaired 80 = .ok (.iconst 1, 1) := by decide +kernel
theorem dX6_arePaired_81 : decode cX6_arePaired 81 = .ok (.if_icmp .ne 7, 3) := by decide +kernel
theorem dX6_arePaired_84 : decode cX6_arePaired 84 = .ok (.iconst 1, 1) := by decide +kernel
theorem dX6_arePaired_85 : decode cX6_arePaired 85 = .ok (.goto 4, 3) := by decide +kernel
theorem dX6_arePaired_88 : decode cX6_arePaired 88 = .ok (.iconst 0, 1) := by decide +kernel
theorem dX6_arePaired_89 : decode cX6_arePaired 89 = .ok (.ireturn, 1) := by decide +kernel
theorem dX6_pairs_0 : decode cX6_pairs 0 = .ok (.iconst 0, 1) := by decide +kernel
theorem dX6_pairs_1 : decode cX6_pairs 1 = .ok (.istore_n 1, 1) := by decide +kernel
theorem dX6_pairs_2 : decode cX6_pairs 2 = .ok (.iconst 0, 1) := by decide +kernel
theorem dX6_pairs_3 : decode cX6_pairs 3 = .ok (.istore_n 2, 1) := by decide +kernel
theorem dX6_pairs_4 : decode cX6_pairs 4 = .ok (.iload_n 2, 1) := by decide +kernel
theorem dX6_pairs_5 : decode cX6_pairs 5 = .ok (.iconst 1, 1) := by decide +kernel
theorem dX6_pairs_6 : decode cX6_pairs 6 = .ok (.iadd, 1) := by decide +kernel
theorem dX6_pairs_7 : decode cX6_pairs 7 = .ok (.aload_n 0, 1) := by decide +kernel
theorem dX6_pairs_8 : decode cX6_pairs 8 = .ok (.getfield 7, 3) := by decide +kernel
theorem dX6_pairs_11 : decode cX6_pairs 11 = .ok (.iconst 0, 1) := by decide +kernel
theorem dX6_pairs_12 : decode cX6_pairs 12 = .ok (.iaload, 1) := by decide +kernel
theorem dX6_pairs_13 : decode cX6_pairs 13 = .ok (.if_icmp .ge 25, 3) := by decide +kernel
theorem dX6_pairs_16 : decode cX6_pairs 16 = .ok (.iload_n 1, 1) := by decide +kernel
theorem dX6_pairs_17 : decode cX6_pairs 17 = .ok (.aload_n 0, 1) := by decide +kernel
theorem dX6_pairs_18 : decode cX6_pairs 18 = .ok (.iload_n 2, 1) := by decide +kernel
theorem dX6_pairs_19 : decode cX6_pairs 19 = .ok (.invokevirtual 105, 3) := by decide +kernel
theorem dX6_pairs_22 : decode cX6_pairs 22 = .ok (.ifCond .eq 7, 3) := by decide +kernel
theorem dX6_pairs_25 : decode cX6_pairs 25 = .ok (.iconst 1, 1) := by decide +kernel
theorem dX6_pairs_26 : decode cX6_pairs 26 = .ok (.goto 4, 3) := by decide +kernel
theorem dX6_pairs_29 : decode cX6_pairs 29 = .ok (.iconst 0, 1) := by decide +kernel
theorem dX6_pairs_30 : decode cX6_pairs 30 = .ok (.iadd, 1) := by decide +kernel
theorem dX6_pairs_31 : decode cX6_pairs 31 = .ok (.istore_n 1, 1) := by decide +kernel
theorem dX6_pairs_32 : decode cX6_pairs 32 = .ok (.iinc 2 2, 3) := by decide +kernel
theorem dX6_pairs_35 : decode cX6_pairs 35 = .ok (.goto (-31), 3) := by decide +kernel
theorem dX6_pairs_38 : decode cX6_pairs 38 = .ok (.iload_n 1, 1) := by decide +kernel
theorem dX6_pairs_39 : decode cX6_pairs 39 = .ok (.ireturn, 1) := by decide +kernel
theorem dX6_ofDancer_0 : decode cX6_ofDancer 0 = .ok (.aload_n 0, 1) := by decide +kernel
theorem dX6_ofDancer_1 : decode cX6_ofDancer 1 = .ok (.iload_n 1, 1) := by decide +kernel
theorem dX6_ofDancer_2 : decode cX6_ofDancer 2 = .ok (.invokevirtual 108, 3) := by decide +kernel
theorem dX6_ofDancer_5 : decode cX6_ofDancer 5 = .ok (.ifCond .eq 13, 3) := by decide +kernel
theorem dX6_ofDancer_8 : decode cX6_ofDancer 8 = .ok (.iload_n 2, 1) := by decide +kernel
theorem dX6_ofDancer_9 : decode cX6_ofDancer 9 = .ok (.iconst 0, 1) := by decide +kernel
theorem dX6_ofDancer_10 : decode cX6_ofDancer 10 = .ok (.bipush 6, 2) := by decide +kernel
theorem dX6_ofDancer_12 : decode cX6_ofDancer 12 = .ok (.invokestatic 48, 3) := by decide +kernel
theorem dX6_ofDancer_15 : decode cX6_ofDancer 15 = .ok (.ifCond .ne 6, 3) := by decide +kernel
theorem dX6_ofDancer_18 : decode cX6_ofDancer 18 = .ok (.bipush (-2), 2) := by decide +kernel
theorem dX6_ofDancer_20 : decode cX6_ofDancer 20 = .ok (.ireturn, 1) := by decide +kernel
theorem dX6_ofDancer_21 : decode cX6_ofDancer 21 = .ok (.iload_n 2, 1) := by decide +kernel
theorem dX6_ofDancer_22 : decode cX6_ofDancer 22 = .ok (.tableswitch 60 4 6 #[26, 40, 46], 26) := by decide +kernel
theorem dX6_ofDancer_48 : decode cX6_ofDancer 48 = .ok (.aload_n 0, 1) := by decide +kernel
theorem dX6_ofDancer_49 : decode cX6_ofDancer 49 = .ok (.iload_n 1, 1) := by decide +kernel
theorem dX6_ofDancer_50 : decode cX6_ofDancer 50 = .ok (.invokevirtual 99, 3) := by decide +kernel
theorem dX6_ofDancer_53 : decode cX6_ofDancer 53 = .ok (.ifCond .eq 7, 3) := by decide +kernel
theorem dX6_ofDancer_56 : decode cX6_ofDancer 56 = .ok (.iconst 1, 1) := by decide +kernel
theorem dX6_ofDancer_57 : decode cX6_ofDancer 57 = .ok (.goto 4, 3) := by decide +kernel
theorem dX6_ofDancer_60 : decode cX6_ofDancer 60 = .ok (.iconst 0, 1) := by decide +kernel
theorem dX6_ofDancer_61 : decode cX6_ofDancer 61 = .ok (.ireturn, 1) := by decide +kernel
theorem dX6_ofDancer_62 : decode cX6_ofDancer 62 = .ok (.aload_n 0, 1) := by decide +kernel
theorem dX6_ofDancer_63 : decode cX6_ofDancer 63 = .ok (.iload_n 1, 1) := by decide +kernel
theorem dX6_ofDancer_64 : decode cX6_ofDancer 64 = .ok (.invokevirtual 102, 3) := by decide +kernel
theorem dX6_ofDancer_67 : decode cX6_ofDancer 67 = .ok (.ireturn, 1) := by decide +kernel
theorem dX6_ofDancer_68 : decode cX6_ofDancer 68 = .ok (.aload_n 0, 1) := by decide +kernel
theorem dX6_ofDancer_69 : decode cX6_ofDancer 69 = .ok (.iload_n 1, 1) := by decide +kernel
theorem dX6_ofDancer_70 : decode cX6_ofDancer 70 = .ok (.invokevirtual 105, 3) := by decide +kernel
theorem dX6_ofDancer_73 : decode cX6_ofDancer 73 = .ok (.ifCond .eq 7, 3) := by decide +kernel
theorem dX6_ofDancer_76 : decode cX6_ofDancer 76 = .ok (.iconst 1, 1) := by decide +kernel
theorem dX6_ofDancer_77 : decode cX6_ofDancer 77 = .ok (.goto 4, 3) := by decide +kernel
theorem dX6_ofDancer_80 : decode cX6_ofDancer 80 = .ok (.iconst 0, 1) := by decide +kernel
theorem dX6_ofDancer_81 : decode cX6_ofDancer 81 = .ok (.ireturn, 1) := by decide +kernel
theorem dX6_ofDancer_82 : decode cX6_ofDancer 82 = .ok (.aload_n 0, 1) := by decide +kernel
theorem dX6_ofDancer_83 : decode cX6_ofDancer 83 = .ok (.getfield 7, 3) := by decide +kernel
theorem dX6_ofDancer_86 : decode cX6_ofDancer 86 = .ok (.iconst 4, 1) := by decide +kernel
theorem dX6_ofDancer_87 : decode cX6_ofDancer 87 = .ok (.iconst 4, 1) := by decide +kernel
theorem dX6_ofDancer_88 : decode cX6_ofDancer 88 = .ok (.iload_n 1, 1) := by decide +kernel
theorem dX6_ofDancer_89 : decode cX6_ofDancer 89 = .ok (.imul, 1) := by decide +kernel
theorem dX6_ofDancer_90 : decode cX6_ofDancer 90 = .ok (.iadd, 1) := by decide +kernel
theorem dX6_ofDancer_91 : decode cX6_ofDancer 91 = .ok (.iload_n 2, 1) := by decide +kernel
theorem dX6_ofDancer_92 : decode cX6_ofDancer 92 = .ok (.iadd, 1) := by decide +kernel
theorem dX6_ofDancer_93 : decode cX6_ofDancer 93 = .ok (.iaload, 1) := by decide +kernel
theorem dX6_ofDancer_94 : decode cX6_ofDancer 94 = .ok (.ireturn, 1) := by decide +kernel
theorem dX6_of_0 : decode cX6_of 0 = .ok (.aload_n 0, 1) := by decide +kernel
theorem dX6_of_1 : decode cX6_of 1 = .ok (.aload_n 0, 1) := by decide +kernel
theorem dX6_of_2 : decode cX6_of 2 = .ok (.iload_n 1, 1) := by decide +kernel
theorem dX6_of_3 : decode cX6_of 3 = .ok (.iload_n 2, 1) := by decide +kernel
theorem dX6_of_4 : decode cX6_of 4 = .ok (.invokevirtual 111, 3) := by decide +kernel
theorem dX6_of_7 : decode cX6_of 7 = .ok (.invokevirtual 114, 3) := by decide +kernel
theorem dX6_of_10 : decode cX6_of 10 = .ok (.ireturn, 1) := by decide +kernel
theorem dX6_on_0 : decode cX6_on 0 = .ok (.iload_n 1, 1) := by decide +kernel
theorem dX6_on_1 : decode cX6_on 1 = .ok (.invokestatic 52, 3) := by decide +kernel
theorem dX6_on_4 : decode cX6_on 4 = .ok (.ifCond .eq 11, 3) := by decide +kernel
theorem dX6_on_7 : decode cX6_on 7 = .ok (.aload_n 0, 1) := by decide +kernel
theorem dX6_on_8 : decode cX6_on 8 = .ok (.iload_n 1, 1) := by decide +kernel
theorem dX6_on_9 : decode cX6_on 9 = .ok (.invokevirtual 63, 3) := by decide +kernel
theorem dX6_on_12 : decode cX6_on 12 = .ok (.goto 9, 3) := by decide +kernel
theorem dX6_on_15 : decode cX6_on 15 = .ok (.aload_n 0, 1) := by decide +kernel
theorem dX6_on_16 : decode cX6_on 16 = .ok (.bipush (-2), 2) := by decide +kernel
theorem dX6_on_18 : decode cX6_on 18 = .ok (.invokevirtual 38, 3) := by decide +kernel
theorem dX6_on_21 : decode cX6_on 21 = .ok (.ireturn, 1) := by decide +kernel
theorem dX6_atSpot_0 : decode cX6_atSpot 0 = .ok (.aload_n 0, 1) := by decide +kernel
theorem dX6_atSpot_1 : decode cX6_atSpot 1 = .ok (.iload_n 1, 1) := by decide +kernel
theorem dX6_atSpot_2 : decode cX6_atSpot 2 = .ok (.invokevirtual 60, 3) := by decide +kernel
theorem dX6_atSpot_5 : decode cX6_atSpot 5 = .ok (.ifCond .eq 34, 3) := by decide +kernel
theorem dX6_atSpot_8 : decode cX6_atSpot 8 = .ok (.iload_n 2, 1) := by decide +kernel
theorem dX6_atSpot_9 : decode cX6_atSpot 9 = .ok (.invokestatic 52, 3) := by decide +kernel
theorem dX6_atSpot_12 : decode cX6_atSpot 12 = .ok (.ifCond .eq 27, 3) := by decide +kernel
theorem dX6_atSpot_15 : decode cX6_atSpot 15 = .ok (.iload_n 3, 1) := by decide +kernel
theorem dX6_atSpot_16 : decode cX6_atSpot 16 = .ok (.iconst 0, 1) := by decide +kernel
theorem dX6_atSpot_17 : decode cX6_atSpot 17 = .ok (.iconst 2, 1) := by decide +kernel
theorem dX6_atSpot_18 : decode cX6_atSpot 18 = .ok (.invokestatic 48, 3) := by decide +kernel
theorem dX6_atSpot_21 : decode cX6_atSpot 21 = .ok (.ifCond .eq 18, 3) := by decide +kernel
theorem dX6_atSpot_24 : decode cX6_atSpot 24 = .ok (.aload_n 0, 1) := by decide +kernel
theorem dX6_atSpot_25 : decode cX6_atSpot 25 = .ok (.getfield 7, 3) := by decide +kernel
theorem dX6_atSpot_28 : decode cX6_atSpot 28 = .ok (.aload_n 0, 1) := by decide +kernel
theorem dX6_atSpot_29 : decode cX6_atSpot 29 = .ok (.iload_n 1, 1) := by decide +kernel
theorem dX6_atSpot_30 : decode cX6_atSpot 30 = .ok (.iload_n 2, 1) := by decide +kernel
theorem dX6_atSpot_31 : decode cX6_atSpot 31 = .ok (.iload_n 3, 1) := by decide +kernel
theorem dX6_atSpot_32 : decode cX6_atSpot 32 = .ok (.invokevirtual 56, 3) := by decide +kernel
theorem dX6_atSpot_35 : decode cX6_atSpot 35 = .ok (.iaload, 1) := by decide +kernel
theorem dX6_atSpot_36 : decode cX6_atSpot 36 = .ok (.goto 5, 3) := by decide +kernel
theorem dX6_atSpot_39 : decode cX6_atSpot 39 = .ok (.bipush (-2), 2) := by decide +kernel
theorem dX6_atSpot_41 : decode cX6_atSpot 41 = .ok (.ireturn, 1) := by decide +kernel
theorem dX6_at_0 : decode cX6_at 0 = .ok (.aload_n 0, 1) := by decide +kernel
theorem dX6_at_1 : decode cX6_at 1 = .ok (.aload_n 0, 1) := by decide +kernel
theorem dX6_at_2 : decode cX6_at 2 = .ok (.iload_n 1, 1) := by decide +kernel
theorem dX6_at_3 : decode cX6_at 3 = .ok (.iload_n 2, 1) := by decide +kernel
theorem dX6_at_4 : decode cX6_at 4 = .ok (.iload_n 3, 1) := by decide +kernel
theorem dX6_at_5 : decode cX6_at 5 = .ok (.invokevirtual 117, 3) := by decide +kernel
theorem dX6_at_8 : decode cX6_at 8 = .ok (.invokevirtual 114, 3) := by decide +kernel
theorem dX6_at_11 : decode cX6_at 11 = .ok (.ireturn, 1) := by decide +kernel
theorem dX6_common_0 : decode cX6_common 0 = .ok (.iload_n 0, 1) := by decide +kernel
theorem dX6_common_1 : decode cX6_common 1 = .ok (.istore_n 2, 1) := by decide +kernel
theorem dX6_common_2 : decode cX6_common 2 = .ok (.iload_n 1, 1) := by decide +kernel
theorem dX6_common_3 : decode cX6_common 3 = .ok (.istore_n 3, 1) := by decide +kernel
theorem dX6_common_4 : decode cX6_common 4 = .ok (.iload_n 3, 1) := by decide +kernel
theorem dX6_common_5 : decode cX6_common 5 = .ok (.ifCond .eq 16, 3) := by decide +kernel
theorem dX6_common_8 : decode cX6_common 8 = .ok (.iload_n 2, 1) := by decide +kernel
theorem dX6_common_9 : decode cX6_common 9 = .ok (.iload_n 3, 1) := by decide +kernel
theorem dX6_common_10 : decode cX6_common 10 = .ok (.irem, 1) := by decide +kernel
theorem dX6_common_11 : decode cX6_common 11 = .ok (.istore 4, 2) := by decide +kernel
theorem dX6_common_13 : decode cX6_common 13 = .ok (.iload_n 3, 1) := by decide +kernel
theorem dX6_common_14 : decode cX6_common 14 = .ok (.istore_n 2, 1) := by decide +kernel
theorem dX6_common_15 : decode cX6_common 15 = .ok (.iload 4, 2) := by decide +kernel
theorem dX6_common_17 : decode cX6_common 17 = .ok (.istore_n 3, 1) := by decide +kernel
theorem dX6_common_18 : decode cX6_common 18 = .ok (.goto (-14), 3) := by decide +kernel
theorem dX6_common_21 : decode cX6_common 21 = .ok (.iload_n 2, 1) := by decide +kernel
theorem dX6_common_22 : decode cX6_common 22 = .ok (.ireturn, 1) := by decide +kernel
theorem dX6_cycle_0 : decode cX6_cycle 0 = .ok (.iconst 0, 1) := by decide +kernel
theorem dX6_cycle_1 : decode cX6_cycle 1 = .ok (.istore_n 3, 1) := by decide +kernel
theorem dX6_cycle_2 : decode cX6_cycle 2 = .ok (.iconst 0, 1) := by decide +kernel
theorem dX6_cycle_3 : decode cX6_cycle 3 = .ok (.istore 4, 2) := by decide +kernel
theorem dX6_cycle_5 : decode cX6_cycle 5 = .ok (.iload_n 2, 1) := by decide +kernel
theorem dX6_cycle_6 : decode cX6_cycle 6 = .ok (.istore 5, 2) := by decide +kernel
theorem dX6_cycle_8 : decode cX6_cycle 8 = .ok (.iload_n 3, 1) := by decide +kernel
theorem dX6_cycle_9 : decode cX6_cycle 9 = .ok (.ifCond .eq 14, 3) := by decide +kernel
theorem dX6_cycle_12 : decode cX6_cycle 12 = .ok (.iload 5, 2) := by decide +kernel
theorem dX6_cycle_14 : decode cX6_cycle 14 = .ok (.iload_n 2, 1) := by decide +kernel
theorem dX6_cycle_15 : decode cX6_cycle 15 = .ok (.if_icmp .ne 8, 3) := by decide +kernel
theorem dX6_cycle_18 : decode cX6_cycle 18 = .ok (.iload 4, 2) := by decide +kernel
theorem dX6_cycle_20 : decode cX6_cycle 20 = .ok (.ifCond .eq 44, 3) := by decide +kernel
theorem dX6_cycle_23 : decode cX6_cycle 23 = .ok (.iload 4, 2) := by decide +kernel
theorem dX6_cycle_25 : decode cX6_cycle 25 = .ok (.aload_n 0, 1) := by decide +kernel
theorem dX6_cycle_26 : decode cX6_cycle 26 = .ok (.getfield 7, 3) := by decide +kernel
theorem dX6_cycle_29 : decode cX6_cycle 29 = .ok (.aload_n 0, 1) := by decide +kernel
theorem dX6_cycle_30 : decode cX6_cycle 30 = .ok (.iload_n 1, 1) := by decide +kernel
theorem dX6_cycle_31 : decode cX6_cycle 31 = .ok (.iload 5, 2) := by decide +kernel
theorem dX6_cycle_33 : decode cX6_cycle 33 = .ok (.iconst 1, 1) := by decide +kernel
theorem dX6_cycle_34 : decode cX6_cycle 34 = .ok (.invokevirtual 56, 3) := by decide +kernel
theorem dX6_cycle_37 : decode cX6_cycle 37 = .ok (.iaload, 1) := by decide +kernel
theorem dX6_cycle_38 : decode cX6_cycle 38 = .ok (.iadd, 1) := by decide +kernel
theorem dX6_cycle_39 : decode cX6_cycle 39 = .ok (.iconst 4, 1) := by decide +kernel
theorem dX6_cycle_40 : decode cX6_cycle 40 = .ok (.irem, 1) := by decide +kernel
theorem dX6_cycle_41 : decode cX6_cycle 41 = .ok (.istore 4, 2) := by decide +kernel
theorem dX6_cycle_43 : decode cX6_cycle 43 = .ok (.aload_n 0, 1) := by decide +kernel
theorem dX6_cycle_44 : decode cX6_cycle 44 = .ok (.getfield 7, 3) := by decide +kernel
theorem dX6_cycle_47 : decode cX6_cycle 47 = .ok (.aload_n 0, 1) := by decide +kernel
theorem dX6_cycle_48 : decode cX6_cycle 48 = .ok (.iload_n 1, 1) := by decide +kernel
theorem dX6_cycle_49 : decode cX6_cycle 49 = .ok (.iload 5, 2) := by decide +kernel
theorem dX6_cycle_51 : decode cX6_cycle 51 = .ok (.iconst 0, 1) := by decide +kernel
theorem dX6_cycle_52 : decode cX6_cycle 52 = .ok (.invokevirtual 56, 3) := by decide +kernel
theorem dX6_cycle_55 : decode cX6_cycle 55 = .ok (.iaload, 1) := by decide +kernel
theorem dX6_cycle_56 : decode cX6_cycle 56 = .ok (.istore 5, 2) := by decide +kernel
theorem dX6_cycle_58 : decode cX6_cycle 58 = .ok (.iinc 3 1, 3) := by decide +kernel
theorem dX6_cycle_61 : decode cX6_cycle 61 = .ok (.goto (-53), 3) := by decide +kernel
theorem dX6_cycle_64 : decode cX6_cycle 64 = .ok (.iload_n 3, 1) := by decide +kernel
theorem dX6_cycle_65 : decode cX6_cycle 65 = .ok (.ireturn, 1) := by decide +kernel
theorem dX6_round_0 : decode cX6_round 0 = .ok (.iconst 1, 1) := by decide +kernel
theorem dX6_round_1 : decode cX6_round 1 = .ok (.istore_n 2, 1) := by decide +kernel
theorem dX6_round_2 : decode cX6_round 2 = .ok (.iconst 0, 1) := by decide +kernel
theorem dX6_round_3 : decode cX6_round 3 = .ok (.istore_n 3, 1) := by decide +kernel
theorem dX6_round_4 : decode cX6_round 4 = .ok (.iload_n 3, 1) := by decide +kernel
theorem dX6_round_5 : decode cX6_round 5 = .ok (.bipush 12, 2) := by decide +kernel
theorem dX6_round_7 : decode cX6_round 7 = .ok (.if_icmp .ge 29, 3) := by decide +kernel
theorem dX6_round_10 : decode cX6_round 10 = .ok (.aload_n 0, 1) := by decide +kernel
theorem dX6_round_11 : decode cX6_round 11 = .ok (.iload_n 1, 1) := by decide +kernel
theorem dX6_round_12 : decode cX6_round 12 = .ok (.iload_n 3, 1) := by decide +kernel
theorem dX6_round_13 : decode cX6_round 13 = .ok (.invokevirtual 120, 3) := by decide +kernel
theorem dX6_round_16 : decode cX6_round 16 = .ok (.istore 4, 2) := by decide +kernel
theorem dX6_round_18 : decode cX6_round 18 = .ok (.iload_n 2, 1) := by decide +kernel
theorem dX6_round_19 : decode cX6_round 19 = .ok (.iload_n 2, 1) := by decide +kernel
theorem dX6_round_20 : decode cX6_round 20 = .ok (.iload 4, 2) := by decide +kernel
theorem dX6_round_22 : decode cX6_round 22 = .ok (.invokestatic 123, 3) := by decide +kernel
theorem dX6_round_25 : decode cX6_round 25 = .ok (.idiv, 1) := by decide +kernel
theorem dX6_round_26 : decode cX6_round 26 = .ok (.iload 4, 2) := by decide +kernel
theorem dX6_round_28 : decode cX6_round 28 = .ok (.imul, 1) := by decide +kernel
theorem dX6_round_29 : decode cX6_round 29 = .ok (.istore_n 2, 1) := by decide +kernel
theorem dX6_round_30 : decode cX6_round 30 = .ok (.iinc 3 1, 3) := by decide +kernel
theorem dX6_round_33 : decode cX6_round 33 = .ok (.goto (-29), 3) := by decide +kernel
theorem dX6_round_36 : decode cX6_round 36 = .ok (.iload_n 2, 1) := by decide +kernel
theorem dX6_round_37 : decode cX6_round 37 = .ok (.ireturn, 1) := by decide +kernel
theorem dX6_ofCall_0 : decode cX6_ofCall 0 = .ok (.aload_n 0, 1) := by decide +kernel
theorem dX6_ofCall_1 : decode cX6_ofCall 1 = .ok (.iload_n 1, 1) := by decide +kernel
theorem dX6_ofCall_2 : decode cX6_ofCall 2 = .ok (.invokevirtual 60, 3) := by decide +kernel
theorem dX6_ofCall_5 : decode cX6_ofCall 5 = .ok (.ifCond .eq 12, 3) := by decide +kernel
theorem dX6_ofCall_8 : decode cX6_ofCall 8 = .ok (.iload_n 2, 1) := by decide +kernel
theorem dX6_ofCall_9 : decode cX6_ofCall 9 = .ok (.iconst 0, 1) := by decide +kernel
theorem dX6_ofCall_10 : decode cX6_ofCall 10 = .ok (.iconst 3, 1) := by decide +kernel
theorem dX6_ofCall_11 : decode cX6_ofCall 11 = .ok (.invokestatic 48, 3) := by decide +kernel
theorem dX6_ofCall_14 : decode cX6_ofCall 14 = .ok (.ifCond .ne 6, 3) := by decide +kernel
theorem dX6_ofCall_17 : decode cX6_ofCall 17 = .ok (.bipush (-2), 2) := by decide +kernel
theorem dX6_ofCall_19 : decode cX6_ofCall 19 = .ok (.ireturn, 1) := by decide +kernel
theorem dX6_ofCall_20 : decode cX6_ofCall 20 = .ok (.iload_n 2, 1) := by decide +kernel
theorem dX6_ofCall_21 : decode cX6_ofCall 21 = .ok (.ifCond .eq 8, 3) := by decide +kernel
theorem dX6_ofCall_24 : decode cX6_ofCall 24 = .ok (.iload_n 2, 1) := by decide +kernel
theorem dX6_ofCall_25 : decode cX6_ofCall 25 = .ok (.iconst 2, 1) := by decide +kernel
theorem dX6_ofCall_26 : decode cX6_ofCall 26 = .ok (.if_icmp .ne 30, 3) := by decide +kernel
theorem dX6_ofCall_29 : decode cX6_ofCall 29 = .ok (.iload_n 2, 1) := by decide +kernel
theorem dX6_ofCall_30 : decode cX6_ofCall 30 = .ok (.iconst 2, 1) := by decide +kernel
theorem dX6_ofCall_31 : decode cX6_ofCall 31 = .ok (.if_icmp .ne 11, 3) := by decide +kernel
theorem dX6_ofCall_34 : decode cX6_ofCall 34 = .ok (.aload_n 0, 1) := by decide +kernel
theorem dX6_ofCall_35 : decode cX6_ofCall 35 = .ok (.iload_n 1, 1) := by decide +kernel
theorem dX6_ofCall_36 : decode cX6_ofCall 36 = .ok (.invokevirtual 126, 3) := by decide +kernel
theorem dX6_ofCall_39 : decode cX6_ofCall 39 = .ok (.goto 16, 3) := by decide +kernel
theorem dX6_ofCall_42 : decode cX6_ofCall 42 = .ok (.aload_n 0, 1) := by decide +kernel
theorem dX6_ofCall_43 : decode cX6_ofCall 43 = .ok (.iload_n 1, 1) := by decide +kernel
theorem dX6_ofCall_44 : decode cX6_ofCall 44 = .ok (.invokevirtual 66, 3) := by decide +kernel
theorem dX6_ofCall_47 : decode cX6_ofCall 47 = .ok (.ifCond .eq 7, 3) := by decide +kernel
theorem dX6_ofCall_50 : decode cX6_ofCall 50 = .ok (.iconst 1, 1) := by decide +kernel
theorem dX6_ofCall_51 : decode cX6_ofCall 51 = .ok (.goto 4, 3) := by decide +kernel
theorem dX6_ofCall_54 : decode cX6_ofCall 54 = .ok (.iconst 0, 1) := by decide +kernel
theorem dX6_ofCall_55 : decode cX6_ofCall 55 = .ok (.ireturn, 1) := by decide +kernel
theorem dX6_ofCall_56 : decode cX6_ofCall 56 = .ok (.iconst 0, 1) := by decide +kernel
theorem dX6_ofCall_57 : decode cX6_ofCall 57 = .ok (.istore_n 3, 1) := by decide +kernel
theorem dX6_ofCall_58 : decode cX6_ofCall 58 = .ok (.iconst 0, 1) := by decide +kernel
theorem dX6_ofCall_59 : decode cX6_ofCall 59 = .ok (.istore 4, 2) := by decide +kernel
theorem dX6_ofCall_61 : decode cX6_ofCall 61 = .ok (.iload 4, 2) := by decide +kernel
theorem dX6_ofCall_63 : decode cX6_ofCall 63 = .ok (.bipush 12, 2) := by decide +kernel
theorem dX6_ofCall_65 : decode cX6_ofCall 65 = .ok (.if_icmp .ge 61, 3) := by decide +kernel
theorem dX6_ofCall_68 : decode cX6_ofCall 68 = .ok (.iload_n 3, 1) := by decide +kernel
theorem dX6_ofCall_69 : decode cX6_ofCall 69 = .ok (.iload_n 2, 1) := by decide +kernel
theorem dX6_ofCall_70 : decode cX6_ofCall 70 = .ok (.iconst 1, 1) := by decide +kernel
theorem dX6_ofCall_71 : decode cX6_ofCall 71 = .ok (.if_icmp .ne 21, 3) := by decide +kernel
theorem dX6_ofCall_74 : decode cX6_ofCall 74 = .ok (.aload_n 0, 1) := by decide +kernel
theorem dX6_ofCall_75 : decode cX6_ofCall 75 = .ok (.getfield 7, 3) := by decide +kernel
theorem dX6_ofCall_78 : decode cX6_ofCall 78 = .ok (.aload_n 0, 1) := by decide +kernel
theorem dX6_ofCall_79 : decode cX6_ofCall 79 = .ok (.iload_n 1, 1) := by decide +kernel
theorem dX6_ofCall_80 : decode cX6_ofCall 80 = .ok (.iload 4, 2) := by decide +kernel
theorem dX6_ofCall_82 : decode cX6_ofCall 82 = .ok (.iconst 0, 1) := by decide +kernel
theorem dX6_ofCall_83 : decode cX6_ofCall 83 = .ok (.invokevirtual 56, 3) := by decide +kernel
theorem dX6_ofCall_86 : decode cX6_ofCall 86 = .ok (.iaload, 1) := by decide +kernel
theorem dX6_ofCall_87 : decode cX6_ofCall 87 = .ok (.iload 4, 2) := by decide +kernel
theorem dX6_ofCall_89 : decode cX6_ofCall 89 = .ok (.if_icmp .ne 24, 3) := by decide +kernel
theorem dX6_ofCall_92 : decode cX6_ofCall 92 = .ok (.iload_n 2, 1) := by decide +kernel
theorem dX6_ofCall_93 : decode cX6_ofCall 93 = .ok (.iconst 3, 1) := by decide +kernel
theorem dX6_ofCall_94 : decode cX6_ofCall 94 = .ok (.if_icmp .ne 23, 3) := by decide +kernel
theorem dX6_ofCall_97 : decode cX6_ofCall 97 = .ok (.aload_n 0, 1) := by decide +kernel
theorem dX6_ofCall_98 : decode cX6_ofCall 98 = .ok (.getfield 7, 3) := by decide +kernel
theorem dX6_ofCall_101 : decode cX6_ofCall 101 = .ok (.aload_n 0, 1) := by decide +kernel
theorem dX6_ofCall_102 : decode cX6_ofCall 102 = .ok (.iload_n 1, 1) := by decide +kernel
theorem dX6_ofCall_103 : decode cX6_ofCall 103 = .ok (.iload 4, 2) := by decide +kernel
theorem dX6_ofCall_105 : decode cX6_ofCall 105 = .ok (.iconst 2, 1) := by decide +kernel
theorem dX6_ofCall_106 : decode cX6_ofCall 106 = .ok (.invokevirtual 56, 3) := by decide +kernel
theorem dX6_ofCall_109 : decode cX6_ofCall 109 = .ok (.iaload, 1) := by decide +kernel
theorem dX6_ofCall_110 : decode cX6_ofCall 110 = .ok (.ifCond .eq 7, 3) := by decide +kernel
theorem dX6_ofCall_113 : decode cX6_ofCall 113 = .ok (.iconst 1, 1) := by decide +kernel
theorem dX6_ofCall_114 : decode cX6_ofCall 114 = .ok (.goto 4, 3) := by decide +kernel
theorem dX6_ofCall_117 : decode cX6_ofCall 117 = .ok (.iconst 0, 1) := by decide +kernel
theorem dX6_ofCall_118 : decode cX6_ofCall 118 = .ok (.iadd, 1) := by decide +kernel
theorem dX6_ofCall_119 : decode cX6_ofCall 119 = .ok (.istore_n 3, 1) := by decide +kernel
theorem dX6_ofCall_120 : decode cX6_ofCall 120 = .ok (.iinc 4 1, 3) := by decide +kernel
theorem dX6_ofCall_123 : decode cX6_ofCall 123 = .ok (.goto (-62), 3) := by decide +kernel
theorem dX6_ofCall_126 : decode cX6_ofCall 126 = .ok (.iload_n 3, 1) := by decide +kernel
theorem dX6_ofCall_127 : decode cX6_ofCall 127 = .ok (.ireturn, 1) := by decide +kernel
theorem dX6_tells_0 : decode cX6_tells 0 = .ok (.aload_n 0, 1) := by decide +kernel
theorem dX6_tells_1 : decode cX6_tells 1 = .ok (.aload_n 0, 1) := by decide +kernel
theorem dX6_tells_2 : decode cX6_tells 2 = .ok (.iload_n 1, 1) := by decide +kernel
theorem dX6_tells_3 : decode cX6_tells 3 = .ok (.iload_n 2, 1) := by decide +kernel
theorem dX6_tells_4 : decode cX6_tells 4 = .ok (.invokevirtual 129, 3) := by decide +kernel
theorem dX6_tells_7 : decode cX6_tells 7 = .ok (.invokevirtual 114, 3) := by decide +kernel
theorem dX6_tells_10 : decode cX6_tells 10 = .ok (.ireturn, 1) := by decide +kernel
theorem dX6_isGoal_0 : decode cX6_isGoal 0 = .ok (.iload_n 1, 1) := by decide +kernel
theorem dX6_isGoal_1 : decode cX6_isGoal 1 = .ok (.iconst 1, 1) := by decide +kernel
theorem dX6_isGoal_2 : decode cX6_isGoal 2 = .ok (.if_icmp .eq 16, 3) := by decide +kernel
theorem dX6_isGoal_5 : decode cX6_isGoal 5 = .ok (.aload_n 0, 1) := by decide +kernel
theorem dX6_isGoal_6 : decode cX6_isGoal 6 = .ok (.invokevirtual 93, 3) := by decide +kernel
theorem dX6_isGoal_9 : decode cX6_isGoal 9 = .ok (.aload_n 0, 1) := by decide +kernel
theorem dX6_isGoal_10 : decode cX6_isGoal 10 = .ok (.getfield 7, 3) := by decide +kernel
theorem dX6_isGoal_13 : decode cX6_isGoal 13 = .ok (.iconst 0, 1) := by decide +kernel
theorem dX6_isGoal_14 : decode cX6_isGoal 14 = .ok (.iaload, 1) := by decide +kernel
theorem dX6_isGoal_15 : decode cX6_isGoal 15 = .ok (.if_icmp .ne 26, 3) := by decide +kernel
theorem dX6_isGoal_18 : decode cX6_isGoal 18 = .ok (.iload_n 1, 1) := by decide +kernel
theorem dX6_isGoal_19 : decode cX6_isGoal 19 = .ok (.ifCond .eq 18, 3) := by decide +kernel
theorem dX6_isGoal_22 : decode cX6_isGoal 22 = .ok (.aload_n 0, 1) := by decide +kernel
theorem dX6_isGoal_23 : decode cX6_isGoal 23 = .ok (.invokevirtual 132, 3) := by decide +kernel
theorem dX6_isGoal_26 : decode cX6_isGoal 26 = .ok (.aload_n 0, 1) := by decide +kernel
theorem dX6_isGoal_27 : decode cX6_isGoal 27 = .ok (.getfield 7, 3) := by decide +kernel
theorem dX6_isGoal_30 : decode cX6_isGoal 30 = .ok (.iconst 0, 1) := by decide +kernel
theorem dX6_isGoal_31 : decode cX6_isGoal 31 = .ok (.iaload, 1) := by decide +kernel
theorem dX6_isGoal_32 : decode cX6_isGoal 32 = .ok (.iconst 2, 1) := by decide +kernel
theorem dX6_isGoal_33 : decode cX6_isGoal 33 = .ok (.idiv, 1) := by decide +kernel
theorem dX6_isGoal_34 : decode cX6_isGoal 34 = .ok (.if_icmp .ne 7, 3) := by decide +kernel
theorem dX6_isGoal_37 : decode cX6_isGoal 37 = .ok (.iconst 1, 1) := by decide +kernel
theorem dX6_isGoal_38 : decode cX6_isGoal 38 = .ok (.goto 4, 3) := by decide +kernel
theorem dX6_isGoal_41 : decode cX6_isGoal 41 = .ok (.iconst 0, 1) := by decide +kernel
theorem dX6_isGoal_42 : decode cX6_isGoal 42 = .ok (.ireturn, 1) := by decide +kernel
theorem dX6_holds_0 : decode cX6_holds 0 = .ok (.iconst 0, 1) := by decide +kernel
theorem dX6_holds_1 : decode cX6_holds 1 = .ok (.istore_n 2, 1) := by decide +kernel
theorem dX6_holds_2 : decode cX6_holds 2 = .ok (.iload_n 2, 1) := by decide +kernel
theorem dX6_holds_3 : decode cX6_holds 3 = .ok (.bipush 8, 2) := by decide +kernel
theorem dX6_holds_5 : decode cX6_holds 5 = .ok (.if_icmp .ge 57, 3) := by decide +kernel
theorem dX6_holds_8 : decode cX6_holds 8 = .ok (.aload_n 0, 1) := by decide +kernel
theorem dX6_holds_9 : decode cX6_holds 9 = .ok (.getfield 25, 3) := by decide +kernel
theorem dX6_holds_12 : decode cX6_holds 12 = .ok (.bipush 16, 2) := by decide +kernel
theorem dX6_holds_14 : decode cX6_holds 14 = .ok (.iload_n 1, 1) := by decide +kernel
theorem dX6_holds_15 : decode cX6_holds 15 = .ok (.imul, 1) := by decide +kernel
theorem dX6_holds_16 : decode cX6_holds 16 = .ok (.iconst 2, 1) := by decide +kernel
theorem dX6_holds_17 : decode cX6_holds 17 = .ok (.iload_n 2, 1) := by decide +kernel
theorem dX6_holds_18 : decode cX6_holds 18 = .ok (.imul, 1) := by decide +kernel
theorem dX6_holds_19 : decode cX6_holds 19 = .ok (.iadd, 1) := by decide +kernel
theorem dX6_holds_20 : decode cX6_holds 20 = .ok (.aload_n 0, 1) := by decide +kernel
theorem dX6_holds_21 : decode cX6_holds 21 = .ok (.getfield 7, 3) := by decide +kernel
theorem dX6_holds_24 : decode cX6_holds 24 = .ok (.iconst 4, 1) := by decide +kernel
theorem dX6_holds_25 : decode cX6_holds 25 = .ok (.iconst 4, 1) := by decide +kernel
theorem dX6_holds_26 : decode cX6_holds 26 = .ok (.iload_n 2, 1) := by decide +kernel
theorem dX6_holds_27 : decode cX6_holds 27 = .ok (.imul, 1) := by decide +kernel
theorem dX6_holds_28 : decode cX6_holds 28 = .ok (.iadd, 1) := by decide +kernel
theorem dX6_holds_29 : decode cX6_holds 29 = .ok (.iaload, 1) := by decide +kernel
theorem dX6_holds_30 : decode cX6_holds 30 = .ok (.iastore, 1) := by decide +kernel
theorem dX6_holds_31 : decode cX6_holds 31 = .ok (.aload_n 0, 1) := by decide +kernel
theorem dX6_holds_32 : decode cX6_holds 32 = .ok (.getfield 25, 3) := by decide +kernel
theorem dX6_holds_35 : decode cX6_holds 35 = .ok (.bipush 16, 2) := by decide +kernel
theorem dX6_holds_37 : decode cX6_holds 37 = .ok (.iload_n 1, 1) := by decide +kernel
theorem dX6_holds_38 : decode cX6_holds 38 = .ok (.imul, 1) := by decide +kernel
theorem dX6_holds_39 : decode cX6_holds 39 = .ok (.iconst 2, 1) := by decide +kernel
theorem dX6_holds_40 : decode cX6_holds 40 = .ok (.iload_n 2, 1) := by decide +kernel
theorem dX6_holds_41 : decode cX6_holds 41 = .ok (.imul, 1) := by decide +kernel
theorem dX6_holds_42 : decode cX6_holds 42 = .ok (.iadd, 1) := by decide +kernel
theorem dX6_holds_43 : decode cX6_holds 43 = .ok (.iconst 1, 1) := by decide +kernel
theorem dX6_holds_44 : decode cX6_holds 44 = .ok (.iadd, 1) := by decide +kernel
theorem dX6_holds_45 : decode cX6_holds 45 = .ok (.aload_n 0, 1) := by decide +kernel
theorem dX6_holds_46 : decode cX6_holds 46 = .ok (.getfield 7, 3) := by decide +kernel
theorem dX6_holds_49 : decode cX6_holds 49 = .ok (.iconst 5, 1) := by decide +kernel
theorem dX6_holds_50 : decode cX6_holds 50 = .ok (.iconst 4, 1) := by decide +kernel
theorem dX6_holds_51 : decode cX6_holds 51 = .ok (.iload_n 2, 1) := by decide +kernel
theorem dX6_holds_52 : decode cX6_holds 52 = .ok (.imul, 1) := by decide +kernel
theorem dX6_holds_53 : decode cX6_holds 53 = .ok (.iadd, 1) := by decide +kernel
theorem dX6_holds_54 : decode cX6_holds 54 = .ok (.iaload, 1) := by decide +kernel
theorem dX6_holds_55 : decode cX6_holds 55 = .ok (.iastore, 1) := by decide +kernel
theorem dX6_holds_56 : decode cX6_holds 56 = .ok (.iinc 2 1, 3) := by decide +kernel
theorem dX6_holds_59 : decode cX6_holds 59 = .ok (.goto (-57), 3) := by decide +kernel
theorem dX6_holds_62 : decode cX6_holds 62 = .ok (.return_, 1) := by decide +kernel
theorem dX6_returns_0 : decode cX6_returns 0 = .ok (.iconst 0, 1) := by decide +kernel
theorem dX6_returns_1 : decode cX6_returns 1 = .ok (.istore_n 2, 1) := by decide +kernel
theorem dX6_returns_2 : decode cX6_returns 2 = .ok (.iload_n 2, 1) := by decide +kernel
theorem dX6_returns_3 : decode cX6_returns 3 = .ok (.bipush 8, 2) := by decide +kernel
theorem dX6_returns_5 : decode cX6_returns 5 = .ok (.if_icmp .ge 57, 3) := by decide +kernel
theorem dX6_returns_8 : decode cX6_returns 8 = .ok (.aload_n 0, 1) := by decide +kernel
theorem dX6_returns_9 : decode cX6_returns 9 = .ok (.getfield 7, 3) := by decide +kernel
theorem dX6_returns_12 : decode cX6_returns 12 = .ok (.iconst 4, 1) := by decide +kernel
theorem dX6_returns_13 : decode cX6_returns 13 = .ok (.iconst 4, 1) := by decide +kernel
theorem dX6_returns_14 : decode cX6_returns 14 = .ok (.iload_n 2, 1) := by decide +kernel
theorem dX6_returns_15 : decode cX6_returns 15 = .ok (.imul, 1) := by decide +kernel
theorem dX6_returns_16 : decode cX6_returns 16 = .ok (.iadd, 1) := by decide +kernel
theorem dX6_returns_17 : decode cX6_returns 17 = .ok (.aload_n 0, 1) := by decide +kernel
theorem dX6_returns_18 : decode cX6_returns 18 = .ok (.getfield 25, 3) := by decide +kernel
theorem dX6_returns_21 : decode cX6_returns 21 = .ok (.bipush 16, 2) := by decide +kernel
theorem dX6_returns_23 : decode cX6_returns 23 = .ok (.iload_n 1, 1) := by decide +kernel
theorem dX6_returns_24 : decode cX6_returns 24 = .ok (.imul, 1) := by decide +kernel
theorem dX6_returns_25 : decode cX6_returns 25 = .ok (.iconst 2, 1) := by decide +kernel
theorem dX6_returns_26 : decode cX6_returns 26 = .ok (.iload_n 2, 1) := by decide +kernel
theorem dX6_returns_27 : decode cX6_returns 27 = .ok (.imul, 1) := by decide +kernel
theorem dX6_returns_28 : decode cX6_returns 28 = .ok (.iadd, 1) := by decide +kernel
theorem dX6_returns_29 : decode cX6_returns 29 = .ok (.iaload, 1) := by decide +kernel
theorem dX6_returns_30 : decode cX6_returns 30 = .ok (.iastore, 1) := by decide +kernel
theorem dX6_returns_31 : decode cX6_returns 31 = .ok (.aload_n 0, 1) := by decide +kernel
theorem dX6_returns_32 : decode cX6_returns 32 = .ok (.getfield 7, 3) := by decide +kernel
theorem dX6_returns_35 : decode cX6_returns 35 = .ok (.iconst 5, 1) := by decide +kernel
theorem dX6_returns_36 : decode cX6_returns 36 = .ok (.iconst 4, 1) := by decide +kernel
theorem dX6_returns_37 : decode cX6_returns 37 = .ok (.iload_n 2, 1) := by decide +kernel
theorem dX6_returns_38 : decode cX6_returns 38 = .ok (.imul, 1) := by decide +kernel
theorem dX6_returns_39 : decode cX6_returns 39 = .ok (.iadd, 1) := by decide +kernel
theorem dX6_returns_40 : decode cX6_returns 40 = .ok (.aload_n 0, 1) := by decide +kernel
theorem dX6_returns_41 : decode cX6_returns 41 = .ok (.getfield 25, 3) := by decide +kernel
theorem dX6_returns_44 : decode cX6_returns 44 = .ok (.bipush 16, 2) := by decide +kernel
theorem dX6_returns_46 : decode cX6_returns 46 = .ok (.iload_n 1, 1) := by decide +kernel
theorem dX6_returns_47 : decode cX6_returns 47 = .ok (.imul, 1) := by decide +kernel
theorem dX6_returns_48 : decode cX6_returns 48 = .ok (.iconst 2, 1) := by decide +kernel
theorem dX6_returns_49 : decode cX6_returns 49 = .ok (.iload_n 2, 1) := by decide +kernel
theorem dX6_returns_50 : decode cX6_returns 50 = .ok (.imul, 1) := by decide +kernel
theorem dX6_returns_51 : decode cX6_returns 51 = .ok (.iadd, 1) := by decide +kernel
theorem dX6_returns_52 : decode cX6_returns 52 = .ok (.iconst 1, 1) := by decide +kernel
theorem dX6_returns_53 : decode cX6_returns 53 = .ok (.iadd, 1) := by decide +kernel
theorem dX6_returns_54 : decode cX6_returns 54 = .ok (.iaload, 1) := by decide +kernel
theorem dX6_returns_55 : decode cX6_returns 55 = .ok (.iastore, 1) := by decide +kernel
theorem dX6_returns_56 : decode cX6_returns 56 = .ok (.iinc 2 1, 3) := by decide +kernel
theorem dX6_returns_59 : decode cX6_returns 59 = .ok (.goto (-57), 3) := by decide +kernel
theorem dX6_returns_62 : decode cX6_returns 62 = .ok (.return_, 1) := by decide +kernel
theorem dX6_isVaried_0 : decode cX6_isVaried 0 = .ok (.iconst 0, 1) := by decide +kernel
theorem dX6_isVaried_1 : decode cX6_isVaried 1 = .ok (.istore 4, 2) := by decide +kernel
theorem dX6_isVaried_3 : decode cX6_isVaried 3 = .ok (.iconst 0, 1) := by decide +kernel
theorem dX6_isVaried_4 : decode cX6_isVaried 4 = .ok (.istore 5, 2) := by decide +kernel
theorem dX6_isVaried_6 : decode cX6_isVaried 6 = .ok (.iload 5, 2) := by decide +kernel
theorem dX6_isVaried_8 : decode cX6_isVaried 8 = .ok (.iload_n 1, 1) := by decide +kernel
theorem dX6_isVaried_9 : decode cX6_isVaried 9 = .ok (.if_icmp .ge 30, 3) := by decide +kernel
theorem dX6_isVaried_12 : decode cX6_isVaried 12 = .ok (.iload 4, 2) := by decide +kernel
theorem dX6_isVaried_14 : decode cX6_isVaried 14 = .ok (.aload_n 0, 1) := by decide +kernel
theorem dX6_isVaried_15 : decode cX6_isVaried 15 = .ok (.getfield 28, 3) := by decide +kernel
theorem dX6_isVaried_18 : decode cX6_isVaried 18 = .ok (.iload 5, 2) := by decide +kernel
theorem dX6_isVaried_20 : decode cX6_isVaried 20 = .ok (.iaload, 1) := by decide +kernel
theorem dX6_isVaried_21 : decode cX6_isVaried 21 = .ok (.iload_n 2, 1) := by decide +kernel
theorem dX6_isVaried_22 : decode cX6_isVaried 22 = .ok (.if_icmp .ne 7, 3) := by decide +kernel
theorem dX6_isVaried_25 : decode cX6_isVaried 25 = .ok (.iconst 1, 1) := by decide +kernel
theorem dX6_isVaried_26 : decode cX6_isVaried 26 = .ok (.goto 4, 3) := by decide +kernel
theorem dX6_isVaried_29 : decode cX6_isVaried 29 = .ok (.iconst 0, 1) := by decide +kernel
theorem dX6_isVaried_30 : decode cX6_isVaried 30 = .ok (.iadd, 1) := by decide +kernel
theorem dX6_isVaried_31 : decode cX6_isVaried 31 = .ok (.istore 4, 2) := by decide +kernel
theorem dX6_isVaried_33 : decode cX6_isVaried 33 = .ok (.iinc 5 1, 3) := by decide +kernel
theorem dX6_isVaried_36 : decode cX6_isVaried 36 = .ok (.goto (-30), 3) := by decide +kernel
theorem dX6_isVaried_39 : decode cX6_isVaried 39 = .ok (.iload 4, 2) := by decide +kernel
theorem dX6_isVaried_41 : decode cX6_isVaried 41 = .ok (.iload_n 3, 1) := by decide +kernel
theorem dX6_isVaried_42 : decode cX6_isVaried 42 = .ok (.if_icmp .ge 23, 3) := by decide +kernel
theorem dX6_isVaried_45 : decode cX6_isVaried 45 = .ok (.iload_n 1, 1) := by decide +kernel
theorem dX6_isVaried_46 : decode cX6_isVaried 46 = .ok (.ifCond .eq 15, 3) := by decide +kernel
theorem dX6_isVaried_49 : decode cX6_isVaried 49 = .ok (.aload_n 0, 1) := by decide +kernel
theorem dX6_isVaried_50 : decode cX6_isVaried 50 = .ok (.getfield 28, 3) := by decide +kernel
theorem dX6_isVaried_53 : decode cX6_isVaried 53 = .ok (.iload_n 1, 1) := by decide +kernel
theorem dX6_isVaried_54 : decode cX6_isVaried 54 = .ok (.iconst 1, 1) := by decide +kernel
theorem dX6_isVaried_55 : decode cX6_isVaried 55 = .ok (.isub, 1) := by decide +kernel
theorem dX6_isVaried_56 : decode cX6_isVaried 56 = .ok (.iaload, 1) := by decide +kernel
theorem dX6_isVaried_57 : decode cX6_isVaried 57 = .ok (.iload_n 2, 1) := by decide +kernel
theorem dX6_isVaried_58 : decode cX6_isVaried 58 = .ok (.if_icmp .eq 7, 3) := by decide +kernel
theorem dX6_isVaried_61 : decode cX6_isVaried 61 = .ok (.iconst 1, 1) := by decide +kernel
theorem dX6_isVaried_62 : decode cX6_isVaried 62 = .ok (.goto 4, 3) := by decide +kernel
theorem dX6_isVaried_65 : decode cX6_isVaried 65 = .ok (.iconst 0, 1) := by decide +kernel
theorem dX6_isVaried_66 : decode cX6_isVaried 66 = .ok (.ireturn, 1) := by decide +kernel
theorem dX6_search_0 : decode cX6_search 0 = .ok (.iload_n 1, 1) := by decide +kernel
theorem dX6_search_1 : decode cX6_search 1 = .ok (.ifCond .ne 17, 3) := by decide +kernel
theorem dX6_search_4 : decode cX6_search 4 = .ok (.aload_n 0, 1) := by decide +kernel
theorem dX6_search_5 : decode cX6_search 5 = .ok (.iload_n 2, 1) := by decide +kernel
theorem dX6_search_6 : decode cX6_search 6 = .ok (.invokevirtual 135, 3) := by decide +kernel
theorem dX6_search_9 : decode cX6_search 9 = .ok (.ifCond .eq 7, 3) := by decide +kernel
theorem dX6_search_12 : decode cX6_search 12 = .ok (.iconst 1, 1) := by decide +kernel
theorem dX6_search_13 : decode cX6_search 13 = .ok (.goto 4, 3) := by decide +kernel
theorem dX6_search_16 : decode cX6_search 16 = .ok (.iconst 0, 1) := by decide +kernel
theorem dX6_search_17 : decode cX6_search 17 = .ok (.ireturn, 1) := by decide +kernel
theorem dX6_search_18 : decode cX6_search 18 = .ok (.iconst 0, 1) := by decide +kernel
theorem dX6_search_19 : decode cX6_search 19 = .ok (.istore 4, 2) := by decide +kernel
theorem dX6_search_21 : decode cX6_search 21 = .ok (.iconst 0, 1) := by decide +kernel
theorem dX6_search_22 : decode cX6_search 22 = .ok (.istore 5, 2) := by decide +kernel
theorem dX6_search_24 : decode cX6_search 24 = .ok (.aload_n 0, 1) := by decide +kernel
theorem dX6_search_25 : decode cX6_search 25 = .ok (.iconst 0, 1) := by decide +kernel
theorem dX6_search_26 : decode cX6_search 26 = .ok (.invokevirtual 138, 3) := by decide +kernel
theorem dX6_search_29 : decode cX6_search 29 = .ok (.aload_n 0, 1) := by decide +kernel
theorem dX6_search_30 : decode cX6_search 30 = .ok (.getfield 28, 3) := by decide +kernel
theorem dX6_search_33 : decode cX6_search 33 = .ok (.iconst 0, 1) := by decide +kernel
theorem dX6_search_34 : decode cX6_search 34 = .ok (.iconst (-1), 1) := by decide +kernel
theorem dX6_search_35 : decode cX6_search 35 = .ok (.iastore, 1) := by decide +kernel
theorem dX6_search_36 : decode cX6_search 36 = .ok (.iload 5, 2) := by decide +kernel
theorem dX6_search_38 : decode cX6_search 38 = .ok (.ifCond .lt 136, 3) := by decide +kernel
theorem dX6_search_41 : decode cX6_search 41 = .ok (.iload_n 3, 1) := by decide +kernel
theorem dX6_search_42 : decode cX6_search 42 = .ok (.ifCond .eq 8, 3) := by decide +kernel
theorem dX6_search_45 : decode cX6_search 45 = .ok (.iload 4, 2) := by decide +kernel
theorem dX6_search_47 : decode cX6_search 47 = .ok (.ifCond .ne 127, 3) := by decide +kernel
theorem dX6_search_50 : decode cX6_search 50 = .ok (.aload_n 0, 1) := by decide +kernel
theorem dX6_search_51 : decode cX6_search 51 = .ok (.iload 5, 2) := by decide +kernel
theorem dX6_search_53 : decode cX6_search 53 = .ok (.invokevirtual 142, 3) := by decide +kernel
theorem dX6_search_56 : decode cX6_search 56 = .ok (.aload_n 0, 1) := by decide +kernel
theorem dX6_search_57 : decode cX6_search 57 = .ok (.getfield 28, 3) := by decide +kernel
theorem dX6_search_60 : decode cX6_search 60 = .ok (.iload 5, 2) := by decide +kernel
theorem dX6_search_62 : decode cX6_search 62 = .ok (.dup2, 1) := by decide +kernel
theorem dX6_search_63 : decode cX6_search 63 = .ok (.iaload, 1) := by decide +kernel
theorem dX6_search_64 : decode cX6_search 64 = .ok (.iconst 1, 1) := by decide +kernel
theorem dX6_search_65 : decode cX6_search 65 = .ok (.iadd, 1) := by decide +kernel
theorem dX6_search_66 : decode cX6_search 66 = .ok (.iastore, 1) := by decide +kernel
theorem dX6_search_67 : decode cX6_search 67 = .ok (.aload_n 0, 1) := by decide +kernel
theorem dX6_search_68 : decode cX6_search 68 = .ok (.getfield 28, 3) := by decide +kernel
theorem dX6_search_71 : decode cX6_search 71 = .ok (.iload 5, 2) := by decide +kernel
theorem dX6_search_73 : decode cX6_search 73 = .ok (.iaload, 1) := by decide +kernel
theorem dX6_search_74 : decode cX6_search 74 = .ok (.istore 6, 2) := by decide +kernel
theorem dX6_search_76 : decode cX6_search 76 = .ok (.iload 6, 2) := by decide +kernel
theorem dX6_search_78 : decode cX6_search 78 = .ok (.aload_n 0, 1) := by decide +kernel
theorem dX6_search_79 : decode cX6_search 79 = .ok (.getfield 7, 3) := by decide +kernel
theorem dX6_search_82 : decode cX6_search 82 = .ok (.iconst 1, 1) := by decide +kernel
theorem dX6_search_83 : decode cX6_search 83 = .ok (.iaload, 1) := by decide +kernel
theorem dX6_search_84 : decode cX6_search 84 = .ok (.if_icmp .ne 9, 3) := by decide +kernel
theorem dX6_search_87 : decode cX6_search 87 = .ok (.iinc 5 (-1), 3) := by decide +kernel
theorem dX6_search_90 : decode cX6_search 90 = .ok (.goto 81, 3) := by decide +kernel
theorem dX6_search_93 : decode cX6_search 93 = .ok (.iload_n 3, 1) := by decide +kernel
theorem dX6_search_94 : decode cX6_search 94 = .ok (.ifCond .eq 15, 3) := by decide +kernel
theorem dX6_search_97 : decode cX6_search 97 = .ok (.aload_n 0, 1) := by decide +kernel
theorem dX6_search_98 : decode cX6_search 98 = .ok (.iload 5, 2) := by decide +kernel
theorem dX6_search_100 : decode cX6_search 100 = .ok (.iload 6, 2) := by decide +kernel
theorem dX6_search_102 : decode cX6_search 102 = .ok (.iload_n 3, 1) := by decide +kernel
theorem dX6_search_103 : decode cX6_search 103 = .ok (.invokevirtual 145, 3) := by decide +kernel
theorem dX6_search_106 : decode cX6_search 106 = .ok (.ifCond .eq 65, 3) := by decide +kernel
theorem dX6_search_109 : decode cX6_search 109 = .ok (.aload_n 0, 1) := by decide +kernel
theorem dX6_search_110 : decode cX6_search 110 = .ok (.iload 6, 2) := by decide +kernel
theorem dX6_search_112 : decode cX6_search 112 = .ok (.invokevirtual 66, 3) := by decide +kernel
theorem dX6_search_115 : decode cX6_search 115 = .ok (.ifCond .eq 56, 3) := by decide +kernel
theorem dX6_search_118 : decode cX6_search 118 = .ok (.aload_n 0, 1) := by decide +kernel
theorem dX6_search_119 : decode cX6_search 119 = .ok (.iload 6, 2) := by decide +kernel
theorem dX6_search_121 : decode cX6_search 121 = .ok (.invokevirtual 69, 3) := by decide +kernel
theorem dX6_search_124 : decode cX6_search 124 = .ok (.pop, 1) := by decide +kernel
theorem dX6_search_125 : decode cX6_search 125 = .ok (.iload 5, 2) := by decide +kernel
theorem dX6_search_127 : decode cX6_search 127 = .ok (.iconst 1, 1) := by decide +kernel
theorem dX6_search_128 : decode cX6_search 128 = .ok (.iadd, 1) := by decide +kernel
theorem dX6_search_129 : decode cX6_search 129 = .ok (.iload_n 1, 1) := by decide +kernel
theorem dX6_search_130 : decode cX6_search 130 = .ok (.if_icmp .ge 23, 3) := by decide +kernel
theorem dX6_search_133 : decode cX6_search 133 = .ok (.iinc 5 1, 3) := by decide +kernel
theorem dX6_search_136 : decode cX6_search 136 = .ok (.aload_n 0, 1) := by decide +kernel
theorem dX6_search_137 : decode cX6_search 137 = .ok (.iload 5, 2) := by decide +kernel
theorem dX6_search_139 : decode cX6_search 139 = .ok (.invokevirtual 138, 3) := by decide +kernel
theorem dX6_search_142 : decode cX6_search 142 = .ok (.aload_n 0, 1) := by decide +kernel
theorem dX6_search_143 : decode cX6_search 143 = .ok (.getfield 28, 3) := by decide +kernel
theorem dX6_search_146 : decode cX6_search 146 = .ok (.iload 5, 2) := by decide +kernel
theorem dX6_search_148 : decode cX6_search 148 = .ok (.iconst (-1), 1) := by decide +kernel
theorem dX6_search_149 : decode cX6_search 149 = .ok (.iastore, 1) := by decide +kernel
theorem dX6_search_150 : decode cX6_search 150 = .ok (.goto 21, 3) := by decide +kernel
theorem dX6_search_153 : decode cX6_search 153 = .ok (.iload 4, 2) := by decide +kernel
theorem dX6_search_155 : decode cX6_search 155 = .ok (.aload_n 0, 1) := by decide +kernel
theorem dX6_search_156 : decode cX6_search 156 = .ok (.iload_n 2, 1) := by decide +kernel
theorem dX6_search_157 : decode cX6_search 157 = .ok (.invokevirtual 135, 3) := by decide +kernel
theorem dX6_search_160 : decode cX6_search 160 = .ok (.ifCond .eq 7, 3) := by decide +kernel
theorem dX6_search_163 : decode cX6_search 163 = .ok (.iconst 1, 1) := by decide +kernel
theorem dX6_search_164 : decode cX6_search 164 = .ok (.goto 4, 3) := by decide +kernel
theorem dX6_search_167 : decode cX6_search 167 = .ok (.iconst 0, 1) := by decide +kernel
theorem dX6_search_168 : decode cX6_search 168 = .ok (.iadd, 1) := by decide +kernel
theorem dX6_search_169 : decode cX6_search 169 = .ok (.istore 4, 2) := by decide +kernel
theorem dX6_search_171 : decode cX6_search 171 = .ok (.goto (-135), 3) := by decide +kernel
theorem dX6_search_174 : decode cX6_search 174 = .ok (.aload_n 0, 1) := by decide +kernel
theorem dX6_search_175 : decode cX6_search 175 = .ok (.iconst 0, 1) := by decide +kernel
theorem dX6_search_176 : decode cX6_search 176 = .ok (.invokevirtual 142, 3) := by decide +kernel
theorem dX6_search_179 : decode cX6_search 179 = .ok (.iload 4, 2) := by decide +kernel
theorem dX6_search_181 : decode cX6_search 181 = .ok (.ireturn, 1) := by decide +kernel
theorem dX6_fewest_0 : decode cX6_fewest 0 = .ok (.iload_n 1, 1) := by decide +kernel
theorem dX6_fewest_1 : decode cX6_fewest 1 = .ok (.iconst 0, 1) := by decide +kernel
theorem dX6_fewest_2 : decode cX6_fewest 2 = .ok (.iconst 2, 1) := by decide +kernel
theorem dX6_fewest_3 : decode cX6_fewest 3 = .ok (.invokestatic 48, 3) := by decide +kernel
theorem dX6_fewest_6 : decode cX6_fewest 6 = .ok (.ifCond .eq 21, 3) := by decide +kernel
theorem dX6_fewest_9 : decode cX6_fewest 9 = .ok (.iload_n 2, 1) := by decide +kernel
theorem dX6_fewest_10 : decode cX6_fewest 10 = .ok (.iconst 0, 1) := by decide +kernel
theorem dX6_fewest_11 : decode cX6_fewest 11 = .ok (.iconst 5, 1) := by decide +kernel
theorem dX6_fewest_12 : decode cX6_fewest 12 = .ok (.invokestatic 48, 3) := by decide +kernel
theorem dX6_fewest_15 : decode cX6_fewest 15 = .ok (.ifCond .eq 12, 3) := by decide +kernel
theorem dX6_fewest_18 : decode cX6_fewest 18 = .ok (.iload_n 3, 1) := by decide +kernel
theorem dX6_fewest_19 : decode cX6_fewest 19 = .ok (.iconst 1, 1) := by decide +kernel
theorem dX6_fewest_20 : decode cX6_fewest 20 = .ok (.iconst 5, 1) := by decide +kernel
theorem dX6_fewest_21 : decode cX6_fewest 21 = .ok (.invokestatic 48, 3) := by decide +kernel
theorem dX6_fewest_24 : decode cX6_fewest 24 = .ok (.ifCond .ne 6, 3) := by decide +kernel
theorem dX6_fewest_27 : decode cX6_fewest 27 = .ok (.bipush (-2), 2) := by decide +kernel
theorem dX6_fewest_29 : decode cX6_fewest 29 = .ok (.ireturn, 1) := by decide +kernel
theorem dX6_fewest_30 : decode cX6_fewest 30 = .ok (.iconst 0, 1) := by decide +kernel
theorem dX6_fewest_31 : decode cX6_fewest 31 = .ok (.istore 4, 2) := by decide +kernel
theorem dX6_fewest_33 : decode cX6_fewest 33 = .ok (.iload 4, 2) := by decide +kernel
theorem dX6_fewest_35 : decode cX6_fewest 35 = .ok (.iload_n 2, 1) := by decide +kernel
theorem dX6_fewest_36 : decode cX6_fewest 36 = .ok (.if_icmp .gt 23, 3) := by decide +kernel
theorem dX6_fewest_39 : decode cX6_fewest 39 = .ok (.aload_n 0, 1) := by decide +kernel
theorem dX6_fewest_40 : decode cX6_fewest 40 = .ok (.iload 4, 2) := by decide +kernel
theorem dX6_fewest_42 : decode cX6_fewest 42 = .ok (.iload_n 1, 1) := by decide +kernel
theorem dX6_fewest_43 : decode cX6_fewest 43 = .ok (.iload_n 3, 1) := by decide +kernel
theorem dX6_fewest_44 : decode cX6_fewest 44 = .ok (.invokevirtual 148, 3) := by decide +kernel
theorem dX6_fewest_47 : decode cX6_fewest 47 = .ok (.ifCond .le 6, 3) := by decide +kernel
theorem dX6_fewest_50 : decode cX6_fewest 50 = .ok (.iload 4, 2) := by decide +kernel
theorem dX6_fewest_52 : decode cX6_fewest 52 = .ok (.ireturn, 1) := by decide +kernel
theorem dX6_fewest_53 : decode cX6_fewest 53 = .ok (.iinc 4 1, 3) := by decide +kernel
theorem dX6_fewest_56 : decode cX6_fewest 56 = .ok (.goto (-23), 3) := by decide +kernel
theorem dX6_fewest_59 : decode cX6_fewest 59 = .ok (.iconst (-1), 1) := by decide +kernel
theorem dX6_fewest_60 : decode cX6_fewest 60 = .ok (.ireturn, 1) := by decide +kernel
theorem dX6_finds_0 : decode cX6_finds 0 = .ok (.aload_n 0, 1) := by decide +kernel
theorem dX6_finds_1 : decode cX6_finds 1 = .ok (.aload_n 0, 1) := by decide +kernel
theorem dX6_finds_2 : decode cX6_finds 2 = .ok (.iload_n 1, 1) := by decide +kernel
theorem dX6_finds_3 : decode cX6_finds 3 = .ok (.iload_n 2, 1) := by decide +kernel
theorem dX6_finds_4 : decode cX6_finds 4 = .ok (.iload_n 3, 1) := by decide +kernel
theorem dX6_finds_5 : decode cX6_finds 5 = .ok (.invokevirtual 151, 3) := by decide +kernel
theorem dX6_finds_8 : decode cX6_finds 8 = .ok (.invokevirtual 114, 3) := by decide +kernel
theorem dX6_finds_11 : decode cX6_finds 11 = .ok (.ireturn, 1) := by decide +kernel
theorem dX6_found_0 : decode cX6_found 0 = .ok (.iload 4, 2) := by decide +kernel
theorem dX6_found_2 : decode cX6_found 2 = .ok (.ifCond .ge 8, 3) := by decide +kernel
theorem dX6_found_5 : decode cX6_found 5 = .ok (.bipush (-2), 2) := by decide +kernel
theorem dX6_found_7 : decode cX6_found 7 = .ok (.goto 10, 3) := by decide +kernel
theorem dX6_found_10 : decode cX6_found 10 = .ok (.aload_n 0, 1) := by decide +kernel
theorem dX6_found_11 : decode cX6_found 11 = .ok (.iload_n 1, 1) := by decide +kernel
theorem dX6_found_12 : decode cX6_found 12 = .ok (.iload_n 2, 1) := by decide +kernel
theorem dX6_found_13 : decode cX6_found 13 = .ok (.iload_n 3, 1) := by decide +kernel
theorem dX6_found_14 : decode cX6_found 14 = .ok (.invokevirtual 151, 3) := by decide +kernel
theorem dX6_found_17 : decode cX6_found 17 = .ok (.istore 5, 2) := by decide +kernel
theorem dX6_found_19 : decode cX6_found 19 = .ok (.iload 5, 2) := by decide +kernel
theorem dX6_found_21 : decode cX6_found 21 = .ok (.iconst (-1), 1) := by decide +kernel
theorem dX6_found_22 : decode cX6_found 22 = .ok (.if_icmp .ge 12, 3) := by decide +kernel
theorem dX6_found_25 : decode cX6_found 25 = .ok (.aload_n 0, 1) := by decide +kernel
theorem dX6_found_26 : decode cX6_found 26 = .ok (.bipush (-2), 2) := by decide +kernel
theorem dX6_found_28 : decode cX6_found 28 = .ok (.invokevirtual 38, 3) := by decide +kernel
theorem dX6_found_31 : decode cX6_found 31 = .ok (.goto 21, 3) := by decide +kernel
theorem dX6_found_34 : decode cX6_found 34 = .ok (.iload 4, 2) := by decide +kernel
theorem dX6_found_36 : decode cX6_found 36 = .ok (.iload 5, 2) := by decide +kernel
theorem dX6_found_38 : decode cX6_found 38 = .ok (.if_icmp .ge 13, 3) := by decide +kernel
theorem dX6_found_41 : decode cX6_found 41 = .ok (.aload_n 0, 1) := by decide +kernel
theorem dX6_found_42 : decode cX6_found 42 = .ok (.getfield 28, 3) := by decide +kernel
theorem dX6_found_45 : decode cX6_found 45 = .ok (.iload 4, 2) := by decide +kernel
theorem dX6_found_47 : decode cX6_found 47 = .ok (.iaload, 1) := by decide +kernel
theorem dX6_found_48 : decode cX6_found 48 = .ok (.goto 4, 3) := by decide +kernel
theorem dX6_found_51 : decode cX6_found 51 = .ok (.iconst (-1), 1) := by decide +kernel
theorem dX6_found_52 : decode cX6_found 52 = .ok (.ireturn, 1) := by decide +kernel
theorem dX6_rows_0 : decode cX6_rows 0 = .ok (.iload_n 1, 1) := by decide +kernel
theorem dX6_rows_1 : decode cX6_rows 1 = .ok (.iconst 0, 1) := by decide +kernel
theorem dX6_rows_2 : decode cX6_rows 2 = .ok (.iconst 2, 1) := by decide +kernel
theorem dX6_rows_3 : decode cX6_rows 3 = .ok (.invokestatic 48, 3) := by decide +kernel
theorem dX6_rows_6 : decode cX6_rows 6 = .ok (.ifCond .eq 22, 3) := by decide +kernel
theorem dX6_rows_9 : decode cX6_rows 9 = .ok (.iload_n 2, 1) := by decide +kernel
theorem dX6_rows_10 : decode cX6_rows 10 = .ok (.iconst 0, 1) := by decide +kernel
theorem dX6_rows_11 : decode cX6_rows 11 = .ok (.iconst 4, 1) := by decide +kernel
theorem dX6_rows_12 : decode cX6_rows 12 = .ok (.invokestatic 48, 3) := by decide +kernel
theorem dX6_rows_15 : decode cX6_rows 15 = .ok (.ifCond .eq 13, 3) := by decide +kernel
theorem dX6_rows_18 : decode cX6_rows 18 = .ok (.aload_n 0, 1) := by decide +kernel
theorem dX6_rows_19 : decode cX6_rows 19 = .ok (.iload_n 2, 1) := by decide +kernel
theorem dX6_rows_20 : decode cX6_rows 20 = .ok (.iload_n 1, 1) := by decide +kernel
theorem dX6_rows_21 : decode cX6_rows 21 = .ok (.iconst 0, 1) := by decide +kernel
theorem dX6_rows_22 : decode cX6_rows 22 = .ok (.invokevirtual 148, 3) := by decide +kernel
theorem dX6_rows_25 : decode cX6_rows 25 = .ok (.goto 9, 3) := by decide +kernel
theorem dX6_rows_28 : decode cX6_rows 28 = .ok (.aload_n 0, 1) := by decide +kernel
theorem dX6_rows_29 : decode cX6_rows 29 = .ok (.bipush (-2), 2) := by decide +kernel
theorem dX6_rows_31 : decode cX6_rows 31 = .ok (.invokevirtual 38, 3) := by decide +kernel
theorem dX6_rows_34 : decode cX6_rows 34 = .ok (.ireturn, 1) := by decide +kernel
theorem dX6_walks_0 : decode cX6_walks 0 = .ok (.aload_n 0, 1) := by decide +kernel
theorem dX6_walks_1 : decode cX6_walks 1 = .ok (.iconst 5, 1) := by decide +kernel
theorem dX6_walks_2 : decode cX6_walks 2 = .ok (.invokevirtual 138, 3) := by decide +kernel
theorem dX6_walks_5 : decode cX6_walks 5 = .ok (.iconst 0, 1) := by decide +kernel
theorem dX6_walks_6 : decode cX6_walks 6 = .ok (.istore_n 1, 1) := by decide +kernel
theorem dX6_walks_7 : decode cX6_walks 7 = .ok (.iload_n 1, 1) := by decide +kernel
theorem dX6_walks_8 : decode cX6_walks 8 = .ok (.aload_n 0, 1) := by decide +kernel
theorem dX6_walks_9 : decode cX6_walks 9 = .ok (.getfield 7, 3) := by decide +kernel
theorem dX6_walks_12 : decode cX6_walks 12 = .ok (.iconst 2, 1) := by decide +kernel
theorem dX6_walks_13 : decode cX6_walks 13 = .ok (.iaload, 1) := by decide +kernel
theorem dX6_walks_14 : decode cX6_walks 14 = .ok (.if_icmp .ge 36, 3) := by decide +kernel
theorem dX6_walks_17 : decode cX6_walks 17 = .ok (.aload_n 0, 1) := by decide +kernel
theorem dX6_walks_18 : decode cX6_walks 18 = .ok (.getfield 7, 3) := by decide +kernel
theorem dX6_walks_21 : decode cX6_walks 21 = .ok (.sipush 324, 3) := by decide +kernel
theorem dX6_walks_24 : decode cX6_walks 24 = .ok (.iload_n 1, 1) := by decide +kernel
theorem dX6_walks_25 : decode cX6_walks 25 = .ok (.iadd, 1) := by decide +kernel
theorem dX6_walks_26 : decode cX6_walks 26 = .ok (.iaload, 1) := by decide +kernel
theorem dX6_walks_27 : decode cX6_walks 27 = .ok (.istore_n 2, 1) := by decide +kernel
theorem dX6_walks_28 : decode cX6_walks 28 = .ok (.aload_n 0, 1) := by decide +kernel
theorem dX6_walks_29 : decode cX6_walks 29 = .ok (.iload_n 2, 1) := by decide +kernel
end
section
theorem dX6_walks_30 : decode cX6_walks 30 = .ok (.invokevirtual 66, 3) := by decide +kernel
theorem dX6_walks_33 : decode cX6_walks 33 = .ok (.ifCond .ne 5, 3) := by decide +kernel
theorem dX6_walks_36 : decode cX6_walks 36 = .ok (.iload_n 1, 1) := by decide +kernel
theorem dX6_walks_37 : decode cX6_walks 37 = .ok (.ireturn, 1) := by decide +kernel
theorem dX6_walks_38 : decode cX6_walks 38 = .ok (.aload_n 0, 1) := by decide +kernel
theorem dX6_walks_39 : decode cX6_walks 39 = .ok (.iload_n 2, 1) := by decide +kernel
theorem dX6_walks_40 : decode cX6_walks 40 = .ok (.invokevirtual 69, 3) := by decide +kernel
theorem dX6_walks_43 : decode cX6_walks 43 = .ok (.pop, 1) := by decide +kernel
theorem dX6_walks_44 : decode cX6_walks 44 = .ok (.iinc 1 1, 3) := by decide +kernel
theorem dX6_walks_47 : decode cX6_walks 47 = .ok (.goto (-40), 3) := by decide +kernel
theorem dX6_walks_50 : decode cX6_walks 50 = .ok (.iconst (-1), 1) := by decide +kernel
theorem dX6_walks_51 : decode cX6_walks 51 = .ok (.ireturn, 1) := by decide +kernel
theorem dX6_judges_0 : decode cX6_judges 0 = .ok (.aload_n 0, 1) := by decide +kernel
theorem dX6_judges_1 : decode cX6_judges 1 = .ok (.invokevirtual 154, 3) := by decide +kernel
theorem dX6_judges_4 : decode cX6_judges 4 = .ok (.istore_n 1, 1) := by decide +kernel
theorem dX6_judges_5 : decode cX6_judges 5 = .ok (.aload_n 0, 1) := by decide +kernel
theorem dX6_judges_6 : decode cX6_judges 6 = .ok (.iconst 5, 1) := by decide +kernel
theorem dX6_judges_7 : decode cX6_judges 7 = .ok (.invokevirtual 142, 3) := by decide +kernel
theorem dX6_judges_10 : decode cX6_judges 10 = .ok (.iload_n 1, 1) := by decide +kernel
theorem dX6_judges_11 : decode cX6_judges 11 = .ok (.ireturn, 1) := by decide +kernel
theorem dX6_planned_0 : decode cX6_planned 0 = .ok (.aload_n 0, 1) := by decide +kernel
theorem dX6_planned_1 : decode cX6_planned 1 = .ok (.iload_n 1, 1) := by decide +kernel
theorem dX6_planned_2 : decode cX6_planned 2 = .ok (.invokevirtual 108, 3) := by decide +kernel
theorem dX6_planned_5 : decode cX6_planned 5 = .ok (.ifCond .eq 12, 3) := by decide +kernel
theorem dX6_planned_8 : decode cX6_planned 8 = .ok (.iload_n 2, 1) := by decide +kernel
theorem dX6_planned_9 : decode cX6_planned 9 = .ok (.iconst 0, 1) := by decide +kernel
theorem dX6_planned_10 : decode cX6_planned 10 = .ok (.iconst 1, 1) := by decide +kernel
theorem dX6_planned_11 : decode cX6_planned 11 = .ok (.invokestatic 48, 3) := by decide +kernel
theorem dX6_planned_14 : decode cX6_planned 14 = .ok (.ifCond .ne 10, 3) := by decide +kernel
theorem dX6_planned_17 : decode cX6_planned 17 = .ok (.aload_n 0, 1) := by decide +kernel
theorem dX6_planned_18 : decode cX6_planned 18 = .ok (.bipush (-2), 2) := by decide +kernel
theorem dX6_planned_20 : decode cX6_planned 20 = .ok (.invokevirtual 38, 3) := by decide +kernel
theorem dX6_planned_23 : decode cX6_planned 23 = .ok (.ireturn, 1) := by decide +kernel
theorem dX6_planned_24 : decode cX6_planned 24 = .ok (.aload_n 0, 1) := by decide +kernel
theorem dX6_planned_25 : decode cX6_planned 25 = .ok (.invokevirtual 154, 3) := by decide +kernel
theorem dX6_planned_28 : decode cX6_planned 28 = .ok (.pop, 1) := by decide +kernel
theorem dX6_planned_29 : decode cX6_planned 29 = .ok (.aload_n 0, 1) := by decide +kernel
theorem dX6_planned_30 : decode cX6_planned 30 = .ok (.getfield 7, 3) := by decide +kernel
theorem dX6_planned_33 : decode cX6_planned 33 = .ok (.iconst 4, 1) := by decide +kernel
theorem dX6_planned_34 : decode cX6_planned 34 = .ok (.iconst 4, 1) := by decide +kernel
theorem dX6_planned_35 : decode cX6_planned 35 = .ok (.iload_n 1, 1) := by decide +kernel
theorem dX6_planned_36 : decode cX6_planned 36 = .ok (.imul, 1) := by decide +kernel
theorem dX6_planned_37 : decode cX6_planned 37 = .ok (.iadd, 1) := by decide +kernel
theorem dX6_planned_38 : decode cX6_planned 38 = .ok (.iload_n 2, 1) := by decide +kernel
theorem dX6_planned_39 : decode cX6_planned 39 = .ok (.iadd, 1) := by decide +kernel
theorem dX6_planned_40 : decode cX6_planned 40 = .ok (.iaload, 1) := by decide +kernel
theorem dX6_planned_41 : decode cX6_planned 41 = .ok (.istore_n 3, 1) := by decide +kernel
theorem dX6_planned_42 : decode cX6_planned 42 = .ok (.aload_n 0, 1) := by decide +kernel
theorem dX6_planned_43 : decode cX6_planned 43 = .ok (.iconst 5, 1) := by decide +kernel
theorem dX6_planned_44 : decode cX6_planned 44 = .ok (.invokevirtual 142, 3) := by decide +kernel
theorem dX6_planned_47 : decode cX6_planned 47 = .ok (.iload_n 3, 1) := by decide +kernel
theorem dX6_planned_48 : decode cX6_planned 48 = .ok (.ireturn, 1) := by decide +kernel
theorem dX6_number_0 : decode cX6_number 0 = .ok (.iload_n 1, 1) := by decide +kernel
theorem dX6_number_1 : decode cX6_number 1 = .ok (.tableswitch 114 0 6 #[43, 43, 50, 55, 60, 100, 107], 43) := by decide +kernel
theorem dX6_number_44 : decode cX6_number 44 = .ok (.aload_n 0, 1) := by decide +kernel
theorem dX6_number_45 : decode cX6_number 45 = .ok (.getfield 7, 3) := by decide +kernel
theorem dX6_number_48 : decode cX6_number 48 = .ok (.iload_n 1, 1) := by decide +kernel
theorem dX6_number_49 : decode cX6_number 49 = .ok (.iaload, 1) := by decide +kernel
theorem dX6_number_50 : decode cX6_number 50 = .ok (.ireturn, 1) := by decide +kernel
theorem dX6_number_51 : decode cX6_number 51 = .ok (.aload_n 0, 1) := by decide +kernel
theorem dX6_number_52 : decode cX6_number 52 = .ok (.invokevirtual 93, 3) := by decide +kernel
theorem dX6_number_55 : decode cX6_number 55 = .ok (.ireturn, 1) := by decide +kernel
theorem dX6_number_56 : decode cX6_number 56 = .ok (.aload_n 0, 1) := by decide +kernel
theorem dX6_number_57 : decode cX6_number 57 = .ok (.invokevirtual 132, 3) := by decide +kernel
theorem dX6_number_60 : decode cX6_number 60 = .ok (.ireturn, 1) := by decide +kernel
theorem dX6_number_61 : decode cX6_number 61 = .ok (.iconst 0, 1) := by decide +kernel
theorem dX6_number_62 : decode cX6_number 62 = .ok (.istore_n 2, 1) := by decide +kernel
theorem dX6_number_63 : decode cX6_number 63 = .ok (.iconst 0, 1) := by decide +kernel
theorem dX6_number_64 : decode cX6_number 64 = .ok (.istore_n 3, 1) := by decide +kernel
theorem dX6_number_65 : decode cX6_number 65 = .ok (.iload_n 3, 1) := by decide +kernel
theorem dX6_number_66 : decode cX6_number 66 = .ok (.aload_n 0, 1) := by decide +kernel
theorem dX6_number_67 : decode cX6_number 67 = .ok (.getfield 7, 3) := by decide +kernel
theorem dX6_number_70 : decode cX6_number 70 = .ok (.iconst 1, 1) := by decide +kernel
theorem dX6_number_71 : decode cX6_number 71 = .ok (.iaload, 1) := by decide +kernel
theorem dX6_number_72 : decode cX6_number 72 = .ok (.if_icmp .ge 27, 3) := by decide +kernel
theorem dX6_number_75 : decode cX6_number 75 = .ok (.iload_n 2, 1) := by decide +kernel
theorem dX6_number_76 : decode cX6_number 76 = .ok (.aload_n 0, 1) := by decide +kernel
theorem dX6_number_77 : decode cX6_number 77 = .ok (.iload_n 3, 1) := by decide +kernel
theorem dX6_number_78 : decode cX6_number 78 = .ok (.invokevirtual 66, 3) := by decide +kernel
theorem dX6_number_81 : decode cX6_number 81 = .ok (.ifCond .eq 9, 3) := by decide +kernel
theorem dX6_number_84 : decode cX6_number 84 = .ok (.iconst 1, 1) := by decide +kernel
theorem dX6_number_85 : decode cX6_number 85 = .ok (.iload_n 3, 1) := by decide +kernel
theorem dX6_number_86 : decode cX6_number 86 = .ok (.ishl, 1) := by decide +kernel
theorem dX6_number_87 : decode cX6_number 87 = .ok (.goto 4, 3) := by decide +kernel
theorem dX6_number_90 : decode cX6_number 90 = .ok (.iconst 0, 1) := by decide +kernel
theorem dX6_number_91 : decode cX6_number 91 = .ok (.ior, 1) := by decide +kernel
theorem dX6_number_92 : decode cX6_number 92 = .ok (.istore_n 2, 1) := by decide +kernel
theorem dX6_number_93 : decode cX6_number 93 = .ok (.iinc 3 1, 3) := by decide +kernel
theorem dX6_number_96 : decode cX6_number 96 = .ok (.goto (-31), 3) := by decide +kernel
theorem dX6_number_99 : decode cX6_number 99 = .ok (.iload_n 2, 1) := by decide +kernel
theorem dX6_number_100 : decode cX6_number 100 = .ok (.ireturn, 1) := by decide +kernel
theorem dX6_number_101 : decode cX6_number 101 = .ok (.aload_n 0, 1) := by decide +kernel
theorem dX6_number_102 : decode cX6_number 102 = .ok (.getfield 7, 3) := by decide +kernel
theorem dX6_number_105 : decode cX6_number 105 = .ok (.iconst 2, 1) := by decide +kernel
theorem dX6_number_106 : decode cX6_number 106 = .ok (.iaload, 1) := by decide +kernel
theorem dX6_number_107 : decode cX6_number 107 = .ok (.ireturn, 1) := by decide +kernel
theorem dX6_number_108 : decode cX6_number 108 = .ok (.aload_n 0, 1) := by decide +kernel
theorem dX6_number_109 : decode cX6_number 109 = .ok (.getfield 7, 3) := by decide +kernel
theorem dX6_number_112 : decode cX6_number 112 = .ok (.iconst 3, 1) := by decide +kernel
theorem dX6_number_113 : decode cX6_number 113 = .ok (.iaload, 1) := by decide +kernel
theorem dX6_number_114 : decode cX6_number 114 = .ok (.ireturn, 1) := by decide +kernel
theorem dX6_number_115 : decode cX6_number 115 = .ok (.bipush (-2), 2) := by decide +kernel
theorem dX6_number_117 : decode cX6_number 117 = .ok (.ireturn, 1) := by decide +kernel
theorem dX6_count_0 : decode cX6_count 0 = .ok (.aload_n 0, 1) := by decide +kernel
theorem dX6_count_1 : decode cX6_count 1 = .ok (.aload_n 0, 1) := by decide +kernel
theorem dX6_count_2 : decode cX6_count 2 = .ok (.iload_n 1, 1) := by decide +kernel
theorem dX6_count_3 : decode cX6_count 3 = .ok (.invokevirtual 157, 3) := by decide +kernel
theorem dX6_count_6 : decode cX6_count 6 = .ok (.invokevirtual 114, 3) := by decide +kernel
theorem dX6_count_9 : decode cX6_count 9 = .ok (.ireturn, 1) := by decide +kernel
theorem dX6_type_0 : decode cX6_type 0 = .ok (.iload_n 1, 1) := by decide +kernel
theorem dX6_type_1 : decode cX6_type 1 = .ok (.iconst 0, 1) := by decide +kernel
theorem dX6_type_2 : decode cX6_type 2 = .ok (.bipush 127, 2) := by decide +kernel
theorem dX6_type_4 : decode cX6_type 4 = .ok (.invokestatic 48, 3) := by decide +kernel
theorem dX6_type_7 : decode cX6_type 7 = .ok (.ifCond .ne 10, 3) := by decide +kernel
theorem dX6_type_10 : decode cX6_type 10 = .ok (.aload_n 0, 1) := by decide +kernel
theorem dX6_type_11 : decode cX6_type 11 = .ok (.bipush (-2), 2) := by decide +kernel
theorem dX6_type_13 : decode cX6_type 13 = .ok (.invokevirtual 38, 3) := by decide +kernel
theorem dX6_type_16 : decode cX6_type 16 = .ok (.ireturn, 1) := by decide +kernel
theorem dX6_type_17 : decode cX6_type 17 = .ok (.aload_n 0, 1) := by decide +kernel
theorem dX6_type_18 : decode cX6_type 18 = .ok (.getfield 34, 3) := by decide +kernel
theorem dX6_type_21 : decode cX6_type 21 = .ok (.bipush 120, 2) := by decide +kernel
theorem dX6_type_23 : decode cX6_type 23 = .ok (.if_icmp .ne 10, 3) := by decide +kernel
theorem dX6_type_26 : decode cX6_type 26 = .ok (.aload_n 0, 1) := by decide +kernel
theorem dX6_type_27 : decode cX6_type 27 = .ok (.bipush (-4), 2) := by decide +kernel
theorem dX6_type_29 : decode cX6_type 29 = .ok (.invokevirtual 38, 3) := by decide +kernel
theorem dX6_type_32 : decode cX6_type 32 = .ok (.ireturn, 1) := by decide +kernel
theorem dX6_type_33 : decode cX6_type 33 = .ok (.aload_n 0, 1) := by decide +kernel
theorem dX6_type_34 : decode cX6_type 34 = .ok (.getfield 22, 3) := by decide +kernel
theorem dX6_type_37 : decode cX6_type 37 = .ok (.aload_n 0, 1) := by decide +kernel
theorem dX6_type_38 : decode cX6_type 38 = .ok (.getfield 34, 3) := by decide +kernel
theorem dX6_type_41 : decode cX6_type 41 = .ok (.iload_n 1, 1) := by decide +kernel
theorem dX6_type_42 : decode cX6_type 42 = .ok (.iastore, 1) := by decide +kernel
theorem dX6_type_43 : decode cX6_type 43 = .ok (.aload_n 0, 1) := by decide +kernel
theorem dX6_type_44 : decode cX6_type 44 = .ok (.dup, 1) := by decide +kernel
theorem dX6_type_45 : decode cX6_type 45 = .ok (.getfield 34, 3) := by decide +kernel
theorem dX6_type_48 : decode cX6_type 48 = .ok (.iconst 1, 1) := by decide +kernel
theorem dX6_type_49 : decode cX6_type 49 = .ok (.iadd, 1) := by decide +kernel
theorem dX6_type_50 : decode cX6_type 50 = .ok (.putfield 34, 3) := by decide +kernel
theorem dX6_type_53 : decode cX6_type 53 = .ok (.aload_n 0, 1) := by decide +kernel
theorem dX6_type_54 : decode cX6_type 54 = .ok (.getfield 34, 3) := by decide +kernel
theorem dX6_type_57 : decode cX6_type 57 = .ok (.ireturn, 1) := by decide +kernel
theorem dX6_clear_0 : decode cX6_clear 0 = .ok (.aload_n 0, 1) := by decide +kernel
theorem dX6_clear_1 : decode cX6_clear 1 = .ok (.getfield 34, 3) := by decide +kernel
theorem dX6_clear_4 : decode cX6_clear 4 = .ok (.istore_n 1, 1) := by decide +kernel
theorem dX6_clear_5 : decode cX6_clear 5 = .ok (.aload_n 0, 1) := by decide +kernel
theorem dX6_clear_6 : decode cX6_clear 6 = .ok (.iconst 0, 1) := by decide +kernel
theorem dX6_clear_7 : decode cX6_clear 7 = .ok (.putfield 34, 3) := by decide +kernel
theorem dX6_clear_10 : decode cX6_clear 10 = .ok (.iload_n 1, 1) := by decide +kernel
theorem dX6_clear_11 : decode cX6_clear 11 = .ok (.ireturn, 1) := by decide +kernel
theorem dX6_byteAt_0 : decode cX6_byteAt 0 = .ok (.iload_n 1, 1) := by decide +kernel
theorem dX6_byteAt_1 : decode cX6_byteAt 1 = .ok (.aload_n 0, 1) := by decide +kernel
theorem dX6_byteAt_2 : decode cX6_byteAt 2 = .ok (.getfield 34, 3) := by decide +kernel
theorem dX6_byteAt_5 : decode cX6_byteAt 5 = .ok (.if_icmp .ge 12, 3) := by decide +kernel
theorem dX6_byteAt_8 : decode cX6_byteAt 8 = .ok (.aload_n 0, 1) := by decide +kernel
theorem dX6_byteAt_9 : decode cX6_byteAt 9 = .ok (.getfield 22, 3) := by decide +kernel
theorem dX6_byteAt_12 : decode cX6_byteAt 12 = .ok (.iload_n 1, 1) := by decide +kernel
theorem dX6_byteAt_13 : decode cX6_byteAt 13 = .ok (.iaload, 1) := by decide +kernel
theorem dX6_byteAt_14 : decode cX6_byteAt 14 = .ok (.goto 4, 3) := by decide +kernel
theorem dX6_byteAt_17 : decode cX6_byteAt 17 = .ok (.iconst 0, 1) := by decide +kernel
theorem dX6_byteAt_18 : decode cX6_byteAt 18 = .ok (.ireturn, 1) := by decide +kernel
theorem dX6_isFigure_0 : decode cX6_isFigure 0 = .ok (.iload_n 0, 1) := by decide +kernel
theorem dX6_isFigure_1 : decode cX6_isFigure 1 = .ok (.bipush 48, 2) := by decide +kernel
theorem dX6_isFigure_3 : decode cX6_isFigure 3 = .ok (.if_icmp .lt 13, 3) := by decide +kernel
theorem dX6_isFigure_6 : decode cX6_isFigure 6 = .ok (.iload_n 0, 1) := by decide +kernel
theorem dX6_isFigure_7 : decode cX6_isFigure 7 = .ok (.bipush 57, 2) := by decide +kernel
theorem dX6_isFigure_9 : decode cX6_isFigure 9 = .ok (.if_icmp .gt 7, 3) := by decide +kernel
theorem dX6_isFigure_12 : decode cX6_isFigure 12 = .ok (.iconst 1, 1) := by decide +kernel
theorem dX6_isFigure_13 : decode cX6_isFigure 13 = .ok (.goto 4, 3) := by decide +kernel
theorem dX6_isFigure_16 : decode cX6_isFigure 16 = .ok (.iconst 0, 1) := by decide +kernel
theorem dX6_isFigure_17 : decode cX6_isFigure 17 = .ok (.ireturn, 1) := by decide +kernel
theorem dX6_blanks_0 : decode cX6_blanks 0 = .ok (.aload_n 0, 1) := by decide +kernel
theorem dX6_blanks_1 : decode cX6_blanks 1 = .ok (.aload_n 0, 1) := by decide +kernel
theorem dX6_blanks_2 : decode cX6_blanks 2 = .ok (.getfield 160, 3) := by decide +kernel
theorem dX6_blanks_5 : decode cX6_blanks 5 = .ok (.invokevirtual 163, 3) := by decide +kernel
theorem dX6_blanks_8 : decode cX6_blanks 8 = .ok (.bipush 32, 2) := by decide +kernel
theorem dX6_blanks_10 : decode cX6_blanks 10 = .ok (.if_icmp .ne 27, 3) := by decide +kernel
theorem dX6_blanks_13 : decode cX6_blanks 13 = .ok (.aload_n 0, 1) := by decide +kernel
theorem dX6_blanks_14 : decode cX6_blanks 14 = .ok (.getfield 160, 3) := by decide +kernel
theorem dX6_blanks_17 : decode cX6_blanks 17 = .ok (.aload_n 0, 1) := by decide +kernel
theorem dX6_blanks_18 : decode cX6_blanks 18 = .ok (.getfield 34, 3) := by decide +kernel
theorem dX6_blanks_21 : decode cX6_blanks 21 = .ok (.if_icmp .ge 16, 3) := by decide +kernel
theorem dX6_blanks_24 : decode cX6_blanks 24 = .ok (.aload_n 0, 1) := by decide +kernel
theorem dX6_blanks_25 : decode cX6_blanks 25 = .ok (.dup, 1) := by decide +kernel
theorem dX6_blanks_26 : decode cX6_blanks 26 = .ok (.getfield 160, 3) := by decide +kernel
theorem dX6_blanks_29 : decode cX6_blanks 29 = .ok (.iconst 1, 1) := by decide +kernel
theorem dX6_blanks_30 : decode cX6_blanks 30 = .ok (.iadd, 1) := by decide +kernel
theorem dX6_blanks_31 : decode cX6_blanks 31 = .ok (.putfield 160, 3) := by decide +kernel
theorem dX6_blanks_34 : decode cX6_blanks 34 = .ok (.goto (-34), 3) := by decide +kernel
theorem dX6_blanks_37 : decode cX6_blanks 37 = .ok (.return_, 1) := by decide +kernel
theorem dX6_fails_0 : decode cX6_fails 0 = .ok (.aload_n 0, 1) := by decide +kernel
theorem dX6_fails_1 : decode cX6_fails 1 = .ok (.iload_n 1, 1) := by decide +kernel
theorem dX6_fails_2 : decode cX6_fails 2 = .ok (.putfield 166, 3) := by decide +kernel
theorem dX6_fails_5 : decode cX6_fails 5 = .ok (.iconst 0, 1) := by decide +kernel
theorem dX6_fails_6 : decode cX6_fails 6 = .ok (.ireturn, 1) := by decide +kernel
theorem dX6_readsNumber_0 : decode cX6_readsNumber 0 = .ok (.aload_n 0, 1) := by decide +kernel
theorem dX6_readsNumber_1 : decode cX6_readsNumber 1 = .ok (.invokevirtual 169, 3) := by decide +kernel
theorem dX6_readsNumber_4 : decode cX6_readsNumber 4 = .ok (.aload_n 0, 1) := by decide +kernel
theorem dX6_readsNumber_5 : decode cX6_readsNumber 5 = .ok (.getfield 160, 3) := by decide +kernel
theorem dX6_readsNumber_8 : decode cX6_readsNumber 8 = .ok (.istore_n 1, 1) := by decide +kernel
theorem dX6_readsNumber_9 : decode cX6_readsNumber 9 = .ok (.aload_n 0, 1) := by decide +kernel
theorem dX6_readsNumber_10 : decode cX6_readsNumber 10 = .ok (.iconst 0, 1) := by decide +kernel
theorem dX6_readsNumber_11 : decode cX6_readsNumber 11 = .ok (.putfield 172, 3) := by decide +kernel
theorem dX6_readsNumber_14 : decode cX6_readsNumber 14 = .ok (.aload_n 0, 1) := by decide +kernel
theorem dX6_readsNumber_15 : decode cX6_readsNumber 15 = .ok (.getfield 160, 3) := by decide +kernel
theorem dX6_readsNumber_18 : decode cX6_readsNumber 18 = .ok (.aload_n 0, 1) := by decide +kernel
theorem dX6_readsNumber_19 : decode cX6_readsNumber 19 = .ok (.getfield 34, 3) := by decide +kernel
theorem dX6_readsNumber_22 : decode cX6_readsNumber 22 = .ok (.if_icmp .ge 65, 3) := by decide +kernel
theorem dX6_readsNumber_25 : decode cX6_readsNumber 25 = .ok (.aload_n 0, 1) := by decide +kernel
theorem dX6_readsNumber_26 : decode cX6_readsNumber 26 = .ok (.getfield 22, 3) := by decide +kernel
theorem dX6_readsNumber_29 : decode cX6_readsNumber 29 = .ok (.aload_n 0, 1) := by decide +kernel
theorem dX6_readsNumber_30 : decode cX6_readsNumber 30 = .ok (.getfield 160, 3) := by decide +kernel
theorem dX6_readsNumber_33 : decode cX6_readsNumber 33 = .ok (.iaload, 1) := by decide +kernel
theorem dX6_readsNumber_34 : decode cX6_readsNumber 34 = .ok (.invokestatic 175, 3) := by decide +kernel
theorem dX6_readsNumber_37 : decode cX6_readsNumber 37 = .ok (.ifCond .eq 50, 3) := by decide +kernel
theorem dX6_readsNumber_40 : decode cX6_readsNumber 40 = .ok (.aload_n 0, 1) := by decide +kernel
theorem dX6_readsNumber_41 : decode cX6_readsNumber 41 = .ok (.getfield 160, 3) := by decide +kernel
theorem dX6_readsNumber_44 : decode cX6_readsNumber 44 = .ok (.iload_n 1, 1) := by decide +kernel
theorem dX6_readsNumber_45 : decode cX6_readsNumber 45 = .ok (.iconst 2, 1) := by decide +kernel
theorem dX6_readsNumber_46 : decode cX6_readsNumber 46 = .ok (.iadd, 1) := by decide +kernel
theorem dX6_readsNumber_47 : decode cX6_readsNumber 47 = .ok (.if_icmp .ge 40, 3) := by decide +kernel
theorem dX6_readsNumber_50 : decode cX6_readsNumber 50 = .ok (.aload_n 0, 1) := by decide +kernel
theorem dX6_readsNumber_51 : decode cX6_readsNumber 51 = .ok (.bipush 10, 2) := by decide +kernel
theorem dX6_readsNumber_53 : decode cX6_readsNumber 53 = .ok (.aload_n 0, 1) := by decide +kernel
theorem dX6_readsNumber_54 : decode cX6_readsNumber 54 = .ok (.getfield 172, 3) := by decide +kernel
theorem dX6_readsNumber_57 : decode cX6_readsNumber 57 = .ok (.imul, 1) := by decide +kernel
theorem dX6_readsNumber_58 : decode cX6_readsNumber 58 = .ok (.aload_n 0, 1) := by decide +kernel
theorem dX6_readsNumber_59 : decode cX6_readsNumber 59 = .ok (.getfield 22, 3) := by decide +kernel
theorem dX6_readsNumber_62 : decode cX6_readsNumber 62 = .ok (.aload_n 0, 1) := by decide +kernel
theorem dX6_readsNumber_63 : decode cX6_readsNumber 63 = .ok (.getfield 160, 3) := by decide +kernel
theorem dX6_readsNumber_66 : decode cX6_readsNumber 66 = .ok (.iaload, 1) := by decide +kernel
theorem dX6_readsNumber_67 : decode cX6_readsNumber 67 = .ok (.iadd, 1) := by decide +kernel
theorem dX6_readsNumber_68 : decode cX6_readsNumber 68 = .ok (.bipush 48, 2) := by decide +kernel
theorem dX6_readsNumber_70 : decode cX6_readsNumber 70 = .ok (.isub, 1) := by decide +kernel
theorem dX6_readsNumber_71 : decode cX6_readsNumber 71 = .ok (.putfield 172, 3) := by decide +kernel
theorem dX6_readsNumber_74 : decode cX6_readsNumber 74 = .ok (.aload_n 0, 1) := by decide +kernel
theorem dX6_readsNumber_75 : decode cX6_readsNumber 75 = .ok (.dup, 1) := by decide +kernel
theorem dX6_readsNumber_76 : decode cX6_readsNumber 76 = .ok (.getfield 160, 3) := by decide +kernel
theorem dX6_readsNumber_79 : decode cX6_readsNumber 79 = .ok (.iconst 1, 1) := by decide +kernel
theorem dX6_readsNumber_80 : decode cX6_readsNumber 80 = .ok (.iadd, 1) := by decide +kernel
theorem dX6_readsNumber_81 : decode cX6_readsNumber 81 = .ok (.putfield 160, 3) := by decide +kernel
theorem dX6_readsNumber_84 : decode cX6_readsNumber 84 = .ok (.goto (-70), 3) := by decide +kernel
theorem dX6_readsNumber_87 : decode cX6_readsNumber 87 = .ok (.aload_n 0, 1) := by decide +kernel
theorem dX6_readsNumber_88 : decode cX6_readsNumber 88 = .ok (.getfield 160, 3) := by decide +kernel
theorem dX6_readsNumber_91 : decode cX6_readsNumber 91 = .ok (.iload_n 1, 1) := by decide +kernel
theorem dX6_readsNumber_92 : decode cX6_readsNumber 92 = .ok (.if_icmp .le 33, 3) := by decide +kernel
theorem dX6_readsNumber_95 : decode cX6_readsNumber 95 = .ok (.aload_n 0, 1) := by decide +kernel
theorem dX6_readsNumber_96 : decode cX6_readsNumber 96 = .ok (.getfield 160, 3) := by decide +kernel
theorem dX6_readsNumber_99 : decode cX6_readsNumber 99 = .ok (.aload_n 0, 1) := by decide +kernel
theorem dX6_readsNumber_100 : decode cX6_readsNumber 100 = .ok (.getfield 34, 3) := by decide +kernel
theorem dX6_readsNumber_103 : decode cX6_readsNumber 103 = .ok (.if_icmp .eq 18, 3) := by decide +kernel
theorem dX6_readsNumber_106 : decode cX6_readsNumber 106 = .ok (.aload_n 0, 1) := by decide +kernel
theorem dX6_readsNumber_107 : decode cX6_readsNumber 107 = .ok (.getfield 22, 3) := by decide +kernel
theorem dX6_readsNumber_110 : decode cX6_readsNumber 110 = .ok (.aload_n 0, 1) := by decide +kernel
theorem dX6_readsNumber_111 : decode cX6_readsNumber 111 = .ok (.getfield 160, 3) := by decide +kernel
theorem dX6_readsNumber_114 : decode cX6_readsNumber 114 = .ok (.iaload, 1) := by decide +kernel
theorem dX6_readsNumber_115 : decode cX6_readsNumber 115 = .ok (.invokestatic 175, 3) := by decide +kernel
theorem dX6_readsNumber_118 : decode cX6_readsNumber 118 = .ok (.ifCond .ne 7, 3) := by decide +kernel
theorem dX6_readsNumber_121 : decode cX6_readsNumber 121 = .ok (.iconst 1, 1) := by decide +kernel
theorem dX6_readsNumber_122 : decode cX6_readsNumber 122 = .ok (.goto 4, 3) := by decide +kernel
theorem dX6_readsNumber_125 : decode cX6_readsNumber 125 = .ok (.iconst 0, 1) := by decide +kernel
theorem dX6_readsNumber_126 : decode cX6_readsNumber 126 = .ok (.istore_n 2, 1) := by decide +kernel
theorem dX6_readsNumber_127 : decode cX6_readsNumber 127 = .ok (.iload_n 2, 1) := by decide +kernel
theorem dX6_readsNumber_128 : decode cX6_readsNumber 128 = .ok (.ifCond .ne 14, 3) := by decide +kernel
theorem dX6_readsNumber_131 : decode cX6_readsNumber 131 = .ok (.aload_n 0, 1) := by decide +kernel
theorem dX6_readsNumber_132 : decode cX6_readsNumber 132 = .ok (.aload_n 0, 1) := by decide +kernel
theorem dX6_readsNumber_133 : decode cX6_readsNumber 133 = .ok (.getfield 160, 3) := by decide +kernel
theorem dX6_readsNumber_136 : decode cX6_readsNumber 136 = .ok (.invokevirtual 178, 3) := by decide +kernel
theorem dX6_readsNumber_139 : decode cX6_readsNumber 139 = .ok (.ifCond .eq 7, 3) := by decide +kernel
theorem dX6_readsNumber_142 : decode cX6_readsNumber 142 = .ok (.iconst 1, 1) := by decide +kernel
theorem dX6_readsNumber_143 : decode cX6_readsNumber 143 = .ok (.goto 4, 3) := by decide +kernel
theorem dX6_readsNumber_146 : decode cX6_readsNumber 146 = .ok (.iconst 0, 1) := by decide +kernel
theorem dX6_readsNumber_147 : decode cX6_readsNumber 147 = .ok (.ireturn, 1) := by decide +kernel
theorem dX6_readsCycle_0 : decode cX6_readsCycle 0 = .ok (.iconst (-1), 1) := by decide +kernel
theorem dX6_readsCycle_1 : decode cX6_readsCycle 1 = .ok (.istore_n 2, 1) := by decide +kernel
theorem dX6_readsCycle_2 : decode cX6_readsCycle 2 = .ok (.iconst (-1), 1) := by decide +kernel
theorem dX6_readsCycle_3 : decode cX6_readsCycle 3 = .ok (.istore_n 3, 1) := by decide +kernel
theorem dX6_readsCycle_4 : decode cX6_readsCycle 4 = .ok (.iconst 0, 1) := by decide +kernel
theorem dX6_readsCycle_5 : decode cX6_readsCycle 5 = .ok (.istore 4, 2) := by decide +kernel
theorem dX6_readsCycle_7 : decode cX6_readsCycle 7 = .ok (.aload_n 0, 1) := by decide +kernel
theorem dX6_readsCycle_8 : decode cX6_readsCycle 8 = .ok (.invokevirtual 169, 3) := by decide +kernel
theorem dX6_readsCycle_11 : decode cX6_readsCycle 11 = .ok (.aload_n 0, 1) := by decide +kernel
theorem dX6_readsCycle_12 : decode cX6_readsCycle 12 = .ok (.aload_n 0, 1) := by decide +kernel
theorem dX6_readsCycle_13 : decode cX6_readsCycle 13 = .ok (.getfield 160, 3) := by decide +kernel
theorem dX6_readsCycle_16 : decode cX6_readsCycle 16 = .ok (.invokevirtual 163, 3) := by decide +kernel
theorem dX6_readsCycle_19 : decode cX6_readsCycle 19 = .ok (.bipush 41, 2) := by decide +kernel
theorem dX6_readsCycle_21 : decode cX6_readsCycle 21 = .ok (.if_icmp .ne 14, 3) := by decide +kernel
theorem dX6_readsCycle_24 : decode cX6_readsCycle 24 = .ok (.aload_n 0, 1) := by decide +kernel
theorem dX6_readsCycle_25 : decode cX6_readsCycle 25 = .ok (.getfield 160, 3) := by decide +kernel
theorem dX6_readsCycle_28 : decode cX6_readsCycle 28 = .ok (.aload_n 0, 1) := by decide +kernel
theorem dX6_readsCycle_29 : decode cX6_readsCycle 29 = .ok (.getfield 34, 3) := by decide +kernel
theorem dX6_readsCycle_32 : decode cX6_readsCycle 32 = .ok (.if_icmp .ne 113, 3) := by decide +kernel
theorem dX6_readsCycle_35 : decode cX6_readsCycle 35 = .ok (.aload_n 0, 1) := by decide +kernel
theorem dX6_readsCycle_36 : decode cX6_readsCycle 36 = .ok (.getfield 160, 3) := by decide +kernel
theorem dX6_readsCycle_39 : decode cX6_readsCycle 39 = .ok (.istore 5, 2) := by decide +kernel
theorem dX6_readsCycle_41 : decode cX6_readsCycle 41 = .ok (.aload_n 0, 1) := by decide +kernel
theorem dX6_readsCycle_42 : decode cX6_readsCycle 42 = .ok (.invokevirtual 181, 3) := by decide +kernel
theorem dX6_readsCycle_45 : decode cX6_readsCycle 45 = .ok (.ifCond .ne 5, 3) := by decide +kernel
theorem dX6_readsCycle_48 : decode cX6_readsCycle 48 = .ok (.iconst 0, 1) := by decide +kernel
theorem dX6_readsCycle_49 : decode cX6_readsCycle 49 = .ok (.ireturn, 1) := by decide +kernel
theorem dX6_readsCycle_50 : decode cX6_readsCycle 50 = .ok (.aload_n 0, 1) := by decide +kernel
theorem dX6_readsCycle_51 : decode cX6_readsCycle 51 = .ok (.getfield 172, 3) := by decide +kernel
theorem dX6_readsCycle_54 : decode cX6_readsCycle 54 = .ok (.bipush 11, 2) := by decide +kernel
theorem dX6_readsCycle_56 : decode cX6_readsCycle 56 = .ok (.if_icmp .gt 19, 3) := by decide +kernel
theorem dX6_readsCycle_59 : decode cX6_readsCycle 59 = .ok (.aload_n 0, 1) := by decide +kernel
theorem dX6_readsCycle_60 : decode cX6_readsCycle 60 = .ok (.getfield 31, 3) := by decide +kernel
theorem dX6_readsCycle_63 : decode cX6_readsCycle 63 = .ok (.iload_n 1, 1) := by decide +kernel
theorem dX6_readsCycle_64 : decode cX6_readsCycle 64 = .ok (.iconst 1, 1) := by decide +kernel
theorem dX6_readsCycle_65 : decode cX6_readsCycle 65 = .ok (.iadd, 1) := by decide +kernel
theorem dX6_readsCycle_66 : decode cX6_readsCycle 66 = .ok (.aload_n 0, 1) := by decide +kernel
theorem dX6_readsCycle_67 : decode cX6_readsCycle 67 = .ok (.getfield 172, 3) := by decide +kernel
theorem dX6_readsCycle_70 : decode cX6_readsCycle 70 = .ok (.iadd, 1) := by decide +kernel
theorem dX6_readsCycle_71 : decode cX6_readsCycle 71 = .ok (.iaload, 1) := by decide +kernel
theorem dX6_readsCycle_72 : decode cX6_readsCycle 72 = .ok (.ifCond .lt 10, 3) := by decide +kernel
theorem dX6_readsCycle_75 : decode cX6_readsCycle 75 = .ok (.aload_n 0, 1) := by decide +kernel
theorem dX6_readsCycle_76 : decode cX6_readsCycle 76 = .ok (.iload 5, 2) := by decide +kernel
theorem dX6_readsCycle_78 : decode cX6_readsCycle 78 = .ok (.invokevirtual 178, 3) := by decide +kernel
theorem dX6_readsCycle_81 : decode cX6_readsCycle 81 = .ok (.ireturn, 1) := by decide +kernel
theorem dX6_readsCycle_82 : decode cX6_readsCycle 82 = .ok (.iload_n 3, 1) := by decide +kernel
theorem dX6_readsCycle_83 : decode cX6_readsCycle 83 = .ok (.ifCond .lt 17, 3) := by decide +kernel
theorem dX6_readsCycle_86 : decode cX6_readsCycle 86 = .ok (.aload_n 0, 1) := by decide +kernel
theorem dX6_readsCycle_87 : decode cX6_readsCycle 87 = .ok (.getfield 31, 3) := by decide +kernel
theorem dX6_readsCycle_90 : decode cX6_readsCycle 90 = .ok (.iload_n 1, 1) := by decide +kernel
theorem dX6_readsCycle_91 : decode cX6_readsCycle 91 = .ok (.iconst 1, 1) := by decide +kernel
theorem dX6_readsCycle_92 : decode cX6_readsCycle 92 = .ok (.iadd, 1) := by decide +kernel
theorem dX6_readsCycle_93 : decode cX6_readsCycle 93 = .ok (.iload_n 3, 1) := by decide +kernel
theorem dX6_readsCycle_94 : decode cX6_readsCycle 94 = .ok (.iadd, 1) := by decide +kernel
theorem dX6_readsCycle_95 : decode cX6_readsCycle 95 = .ok (.aload_n 0, 1) := by decide +kernel
theorem dX6_readsCycle_96 : decode cX6_readsCycle 96 = .ok (.getfield 172, 3) := by decide +kernel
theorem dX6_readsCycle_99 : decode cX6_readsCycle 99 = .ok (.iastore, 1) := by decide +kernel
theorem dX6_readsCycle_100 : decode cX6_readsCycle 100 = .ok (.iload_n 2, 1) := by decide +kernel
theorem dX6_readsCycle_101 : decode cX6_readsCycle 101 = .ok (.ifCond .ge 10, 3) := by decide +kernel
theorem dX6_readsCycle_104 : decode cX6_readsCycle 104 = .ok (.aload_n 0, 1) := by decide +kernel
theorem dX6_readsCycle_105 : decode cX6_readsCycle 105 = .ok (.getfield 172, 3) := by decide +kernel
theorem dX6_readsCycle_108 : decode cX6_readsCycle 108 = .ok (.goto 4, 3) := by decide +kernel
theorem dX6_readsCycle_111 : decode cX6_readsCycle 111 = .ok (.iload_n 2, 1) := by decide +kernel
theorem dX6_readsCycle_112 : decode cX6_readsCycle 112 = .ok (.istore_n 2, 1) := by decide +kernel
theorem dX6_readsCycle_113 : decode cX6_readsCycle 113 = .ok (.aload_n 0, 1) := by decide +kernel
theorem dX6_readsCycle_114 : decode cX6_readsCycle 114 = .ok (.getfield 172, 3) := by decide +kernel
theorem dX6_readsCycle_117 : decode cX6_readsCycle 117 = .ok (.istore_n 3, 1) := by decide +kernel
theorem dX6_readsCycle_118 : decode cX6_readsCycle 118 = .ok (.aload_n 0, 1) := by decide +kernel
theorem dX6_readsCycle_119 : decode cX6_readsCycle 119 = .ok (.getfield 31, 3) := by decide +kernel
theorem dX6_readsCycle_122 : decode cX6_readsCycle 122 = .ok (.iload_n 1, 1) := by decide +kernel
theorem dX6_readsCycle_123 : decode cX6_readsCycle 123 = .ok (.iconst 1, 1) := by decide +kernel
theorem dX6_readsCycle_124 : decode cX6_readsCycle 124 = .ok (.iadd, 1) := by decide +kernel
theorem dX6_readsCycle_125 : decode cX6_readsCycle 125 = .ok (.aload_n 0, 1) := by decide +kernel
theorem dX6_readsCycle_126 : decode cX6_readsCycle 126 = .ok (.getfield 172, 3) := by decide +kernel
theorem dX6_readsCycle_129 : decode cX6_readsCycle 129 = .ok (.iadd, 1) := by decide +kernel
theorem dX6_readsCycle_130 : decode cX6_readsCycle 130 = .ok (.aload_n 0, 1) := by decide +kernel
theorem dX6_readsCycle_131 : decode cX6_readsCycle 131 = .ok (.getfield 172, 3) := by decide +kernel
theorem dX6_readsCycle_134 : decode cX6_readsCycle 134 = .ok (.iastore, 1) := by decide +kernel
theorem dX6_readsCycle_135 : decode cX6_readsCycle 135 = .ok (.iinc 4 1, 3) := by decide +kernel
theorem dX6_readsCycle_138 : decode cX6_readsCycle 138 = .ok (.aload_n 0, 1) := by decide +kernel
theorem dX6_readsCycle_139 : decode cX6_readsCycle 139 = .ok (.invokevirtual 169, 3) := by decide +kernel
theorem dX6_readsCycle_142 : decode cX6_readsCycle 142 = .ok (.goto (-131), 3) := by decide +kernel
theorem dX6_readsCycle_145 : decode cX6_readsCycle 145 = .ok (.iload 4, 2) := by decide +kernel
theorem dX6_readsCycle_147 : decode cX6_readsCycle 147 = .ok (.iconst 2, 1) := by decide +kernel
theorem dX6_readsCycle_148 : decode cX6_readsCycle 148 = .ok (.if_icmp .ge 12, 3) := by decide +kernel
theorem dX6_readsCycle_151 : decode cX6_readsCycle 151 = .ok (.aload_n 0, 1) := by decide +kernel
theorem dX6_readsCycle_152 : decode cX6_readsCycle 152 = .ok (.aload_n 0, 1) := by decide +kernel
theorem dX6_readsCycle_153 : decode cX6_readsCycle 153 = .ok (.getfield 160, 3) := by decide +kernel
theorem dX6_readsCycle_156 : decode cX6_readsCycle 156 = .ok (.invokevirtual 178, 3) := by decide +kernel
theorem dX6_readsCycle_159 : decode cX6_readsCycle 159 = .ok (.ireturn, 1) := by decide +kernel
theorem dX6_readsCycle_160 : decode cX6_readsCycle 160 = .ok (.aload_n 0, 1) := by decide +kernel
theorem dX6_readsCycle_161 : decode cX6_readsCycle 161 = .ok (.getfield 31, 3) := by decide +kernel
theorem dX6_readsCycle_164 : decode cX6_readsCycle 164 = .ok (.iload_n 1, 1) := by decide +kernel
theorem dX6_readsCycle_165 : decode cX6_readsCycle 165 = .ok (.iconst 1, 1) := by decide +kernel
theorem dX6_readsCycle_166 : decode cX6_readsCycle 166 = .ok (.iadd, 1) := by decide +kernel
theorem dX6_readsCycle_167 : decode cX6_readsCycle 167 = .ok (.iload_n 3, 1) := by decide +kernel
theorem dX6_readsCycle_168 : decode cX6_readsCycle 168 = .ok (.iadd, 1) := by decide +kernel
theorem dX6_readsCycle_169 : decode cX6_readsCycle 169 = .ok (.iload_n 2, 1) := by decide +kernel
theorem dX6_readsCycle_170 : decode cX6_readsCycle 170 = .ok (.iastore, 1) := by decide +kernel
theorem dX6_readsCycle_171 : decode cX6_readsCycle 171 = .ok (.aload_n 0, 1) := by decide +kernel
theorem dX6_readsCycle_172 : decode cX6_readsCycle 172 = .ok (.dup, 1) := by decide +kernel
theorem dX6_readsCycle_173 : decode cX6_readsCycle 173 = .ok (.getfield 160, 3) := by decide +kernel
theorem dX6_readsCycle_176 : decode cX6_readsCycle 176 = .ok (.iconst 1, 1) := by decide +kernel
theorem dX6_readsCycle_177 : decode cX6_readsCycle 177 = .ok (.iadd, 1) := by decide +kernel
theorem dX6_readsCycle_178 : decode cX6_readsCycle 178 = .ok (.putfield 160, 3) := by decide +kernel
theorem dX6_readsCycle_181 : decode cX6_readsCycle 181 = .ok (.iconst 1, 1) := by decide +kernel
theorem dX6_readsCycle_182 : decode cX6_readsCycle 182 = .ok (.ireturn, 1) := by decide +kernel
theorem dX6_readsCycles_0 : decode cX6_readsCycles 0 = .ok (.iconst 0, 1) := by decide +kernel
theorem dX6_readsCycles_1 : decode cX6_readsCycles 1 = .ok (.istore_n 2, 1) := by decide +kernel
theorem dX6_readsCycles_2 : decode cX6_readsCycles 2 = .ok (.iload_n 2, 1) := by decide +kernel
theorem dX6_readsCycles_3 : decode cX6_readsCycles 3 = .ok (.bipush 12, 2) := by decide +kernel
theorem dX6_readsCycles_5 : decode cX6_readsCycles 5 = .ok (.if_icmp .ge 20, 3) := by decide +kernel
theorem dX6_readsCycles_8 : decode cX6_readsCycles 8 = .ok (.aload_n 0, 1) := by decide +kernel
theorem dX6_readsCycles_9 : decode cX6_readsCycles 9 = .ok (.getfield 31, 3) := by decide +kernel
theorem dX6_readsCycles_12 : decode cX6_readsCycles 12 = .ok (.iload_n 1, 1) := by decide +kernel
theorem dX6_readsCycles_13 : decode cX6_readsCycles 13 = .ok (.iconst 1, 1) := by decide +kernel
theorem dX6_readsCycles_14 : decode cX6_readsCycles 14 = .ok (.iadd, 1) := by decide +kernel
theorem dX6_readsCycles_15 : decode cX6_readsCycles 15 = .ok (.iload_n 2, 1) := by decide +kernel
theorem dX6_readsCycles_16 : decode cX6_readsCycles 16 = .ok (.iadd, 1) := by decide +kernel
theorem dX6_readsCycles_17 : decode cX6_readsCycles 17 = .ok (.iconst (-1), 1) := by decide +kernel
theorem dX6_readsCycles_18 : decode cX6_readsCycles 18 = .ok (.iastore, 1) := by decide +kernel
theorem dX6_readsCycles_19 : decode cX6_readsCycles 19 = .ok (.iinc 2 1, 3) := by decide +kernel
theorem dX6_readsCycles_22 : decode cX6_readsCycles 22 = .ok (.goto (-20), 3) := by decide +kernel
theorem dX6_readsCycles_25 : decode cX6_readsCycles 25 = .ok (.aload_n 0, 1) := by decide +kernel
theorem dX6_readsCycles_26 : decode cX6_readsCycles 26 = .ok (.invokevirtual 169, 3) := by decide +kernel
theorem dX6_readsCycles_29 : decode cX6_readsCycles 29 = .ok (.aload_n 0, 1) := by decide +kernel
theorem dX6_readsCycles_30 : decode cX6_readsCycles 30 = .ok (.getfield 160, 3) := by decide +kernel
theorem dX6_readsCycles_33 : decode cX6_readsCycles 33 = .ok (.aload_n 0, 1) := by decide +kernel
theorem dX6_readsCycles_34 : decode cX6_readsCycles 34 = .ok (.getfield 34, 3) := by decide +kernel
theorem dX6_readsCycles_37 : decode cX6_readsCycles 37 = .ok (.if_icmp .ge 44, 3) := by decide +kernel
theorem dX6_readsCycles_40 : decode cX6_readsCycles 40 = .ok (.aload_n 0, 1) := by decide +kernel
theorem dX6_readsCycles_41 : decode cX6_readsCycles 41 = .ok (.getfield 22, 3) := by decide +kernel
theorem dX6_readsCycles_44 : decode cX6_readsCycles 44 = .ok (.aload_n 0, 1) := by decide +kernel
theorem dX6_readsCycles_45 : decode cX6_readsCycles 45 = .ok (.getfield 160, 3) := by decide +kernel
theorem dX6_readsCycles_48 : decode cX6_readsCycles 48 = .ok (.iaload, 1) := by decide +kernel
theorem dX6_readsCycles_49 : decode cX6_readsCycles 49 = .ok (.bipush 40, 2) := by decide +kernel
theorem dX6_readsCycles_51 : decode cX6_readsCycles 51 = .ok (.if_icmp .ne 30, 3) := by decide +kernel
theorem dX6_readsCycles_54 : decode cX6_readsCycles 54 = .ok (.aload_n 0, 1) := by decide +kernel
theorem dX6_readsCycles_55 : decode cX6_readsCycles 55 = .ok (.dup, 1) := by decide +kernel
theorem dX6_readsCycles_56 : decode cX6_readsCycles 56 = .ok (.getfield 160, 3) := by decide +kernel
theorem dX6_readsCycles_59 : decode cX6_readsCycles 59 = .ok (.iconst 1, 1) := by decide +kernel
theorem dX6_readsCycles_60 : decode cX6_readsCycles 60 = .ok (.iadd, 1) := by decide +kernel
theorem dX6_readsCycles_61 : decode cX6_readsCycles 61 = .ok (.putfield 160, 3) := by decide +kernel
theorem dX6_readsCycles_64 : decode cX6_readsCycles 64 = .ok (.aload_n 0, 1) := by decide +kernel
theorem dX6_readsCycles_65 : decode cX6_readsCycles 65 = .ok (.iload_n 1, 1) := by decide +kernel
theorem dX6_readsCycles_66 : decode cX6_readsCycles 66 = .ok (.invokevirtual 185, 3) := by decide +kernel
theorem dX6_readsCycles_69 : decode cX6_readsCycles 69 = .ok (.ifCond .ne 5, 3) := by decide +kernel
theorem dX6_readsCycles_72 : decode cX6_readsCycles 72 = .ok (.iconst 0, 1) := by decide +kernel
theorem dX6_readsCycles_73 : decode cX6_readsCycles 73 = .ok (.ireturn, 1) := by decide +kernel
theorem dX6_readsCycles_74 : decode cX6_readsCycles 74 = .ok (.aload_n 0, 1) := by decide +kernel
theorem dX6_readsCycles_75 : decode cX6_readsCycles 75 = .ok (.invokevirtual 169, 3) := by decide +kernel
theorem dX6_readsCycles_78 : decode cX6_readsCycles 78 = .ok (.goto (-49), 3) := by decide +kernel
theorem dX6_readsCycles_81 : decode cX6_readsCycles 81 = .ok (.iconst 1, 1) := by decide +kernel
theorem dX6_readsCycles_82 : decode cX6_readsCycles 82 = .ok (.ireturn, 1) := by decide +kernel
theorem dX6_numbersOf_0 : decode cX6_numbersOf 0 = .ok (.iload_n 0, 1) := by decide +kernel
theorem dX6_numbersOf_1 : decode cX6_numbersOf 1 = .ok (.bipush 117, 2) := by decide +kernel
theorem dX6_numbersOf_3 : decode cX6_numbersOf 3 = .ok (.if_icmp .eq 9, 3) := by decide +kernel
theorem dX6_numbersOf_6 : decode cX6_numbersOf 6 = .ok (.iload_n 0, 1) := by decide +kernel
theorem dX6_numbersOf_7 : decode cX6_numbersOf 7 = .ok (.bipush 119, 2) := by decide +kernel
theorem dX6_numbersOf_9 : decode cX6_numbersOf 9 = .ok (.if_icmp .ne 7, 3) := by decide +kernel
theorem dX6_numbersOf_12 : decode cX6_numbersOf 12 = .ok (.iconst 3, 1) := by decide +kernel
theorem dX6_numbersOf_13 : decode cX6_numbersOf 13 = .ok (.goto 40, 3) := by decide +kernel
theorem dX6_numbersOf_16 : decode cX6_numbersOf 16 = .ok (.iload_n 0, 1) := by decide +kernel
theorem dX6_numbersOf_17 : decode cX6_numbersOf 17 = .ok (.bipush 100, 2) := by decide +kernel
theorem dX6_numbersOf_19 : decode cX6_numbersOf 19 = .ok (.if_icmp .ne 7, 3) := by decide +kernel
theorem dX6_numbersOf_22 : decode cX6_numbersOf 22 = .ok (.iconst 2, 1) := by decide +kernel
theorem dX6_numbersOf_23 : decode cX6_numbersOf 23 = .ok (.goto 30, 3) := by decide +kernel
theorem dX6_numbersOf_26 : decode cX6_numbersOf 26 = .ok (.iload_n 0, 1) := by decide +kernel
theorem dX6_numbersOf_27 : decode cX6_numbersOf 27 = .ok (.bipush 103, 2) := by decide +kernel
theorem dX6_numbersOf_29 : decode cX6_numbersOf 29 = .ok (.if_icmp .eq 9, 3) := by decide +kernel
theorem dX6_numbersOf_32 : decode cX6_numbersOf 32 = .ok (.iload_n 0, 1) := by decide +kernel
theorem dX6_numbersOf_33 : decode cX6_numbersOf 33 = .ok (.bipush 112, 2) := by decide +kernel
theorem dX6_numbersOf_35 : decode cX6_numbersOf 35 = .ok (.if_icmp .ne 7, 3) := by decide +kernel
theorem dX6_numbersOf_38 : decode cX6_numbersOf 38 = .ok (.iconst 1, 1) := by decide +kernel
theorem dX6_numbersOf_39 : decode cX6_numbersOf 39 = .ok (.goto 14, 3) := by decide +kernel
theorem dX6_numbersOf_42 : decode cX6_numbersOf 42 = .ok (.iload_n 0, 1) := by decide +kernel
theorem dX6_numbersOf_43 : decode cX6_numbersOf 43 = .ok (.bipush 107, 2) := by decide +kernel
theorem dX6_numbersOf_45 : decode cX6_numbersOf 45 = .ok (.if_icmp .ne 7, 3) := by decide +kernel
theorem dX6_numbersOf_48 : decode cX6_numbersOf 48 = .ok (.iconst 0, 1) := by decide +kernel
theorem dX6_numbersOf_49 : decode cX6_numbersOf 49 = .ok (.goto 4, 3) := by decide +kernel
theorem dX6_numbersOf_52 : decode cX6_numbersOf 52 = .ok (.iconst (-1), 1) := by decide +kernel
theorem dX6_numbersOf_53 : decode cX6_numbersOf 53 = .ok (.ireturn, 1) := by decide +kernel
theorem dX6_readsOrder_0 : decode cX6_readsOrder 0 = .ok (.bipush 13, 2) := by decide +kernel
theorem dX6_readsOrder_2 : decode cX6_readsOrder 2 = .ok (.aload_n 0, 1) := by decide +kernel
theorem dX6_readsOrder_3 : decode cX6_readsOrder 3 = .ok (.getfield 188, 3) := by decide +kernel
theorem dX6_readsOrder_6 : decode cX6_readsOrder 6 = .ok (.imul, 1) := by decide +kernel
theorem dX6_readsOrder_7 : decode cX6_readsOrder 7 = .ok (.istore_n 1, 1) := by decide +kernel
theorem dX6_readsOrder_8 : decode cX6_readsOrder 8 = .ok (.aload_n 0, 1) := by decide +kernel
theorem dX6_readsOrder_9 : decode cX6_readsOrder 9 = .ok (.aload_n 0, 1) := by decide +kernel
theorem dX6_readsOrder_10 : decode cX6_readsOrder 10 = .ok (.getfield 160, 3) := by decide +kernel
theorem dX6_readsOrder_13 : decode cX6_readsOrder 13 = .ok (.invokevirtual 163, 3) := by decide +kernel
theorem dX6_readsOrder_16 : decode cX6_readsOrder 16 = .ok (.invokestatic 191, 3) := by decide +kernel
theorem dX6_readsOrder_19 : decode cX6_readsOrder 19 = .ok (.istore_n 2, 1) := by decide +kernel
theorem dX6_readsOrder_20 : decode cX6_readsOrder 20 = .ok (.iload_n 2, 1) := by decide +kernel
theorem dX6_readsOrder_21 : decode cX6_readsOrder 21 = .ok (.ifCond .ge 12, 3) := by decide +kernel
theorem dX6_readsOrder_24 : decode cX6_readsOrder 24 = .ok (.aload_n 0, 1) := by decide +kernel
theorem dX6_readsOrder_25 : decode cX6_readsOrder 25 = .ok (.aload_n 0, 1) := by decide +kernel
theorem dX6_readsOrder_26 : decode cX6_readsOrder 26 = .ok (.getfield 160, 3) := by decide +kernel
theorem dX6_readsOrder_29 : decode cX6_readsOrder 29 = .ok (.invokevirtual 178, 3) := by decide +kernel
theorem dX6_readsOrder_32 : decode cX6_readsOrder 32 = .ok (.ireturn, 1) := by decide +kernel
theorem dX6_readsOrder_33 : decode cX6_readsOrder 33 = .ok (.aload_n 0, 1) := by decide +kernel
theorem dX6_readsOrder_34 : decode cX6_readsOrder 34 = .ok (.getfield 31, 3) := by decide +kernel
theorem dX6_readsOrder_37 : decode cX6_readsOrder 37 = .ok (.iload_n 1, 1) := by decide +kernel
theorem dX6_readsOrder_38 : decode cX6_readsOrder 38 = .ok (.aload_n 0, 1) := by decide +kernel
theorem dX6_readsOrder_39 : decode cX6_readsOrder 39 = .ok (.getfield 22, 3) := by decide +kernel
theorem dX6_readsOrder_42 : decode cX6_readsOrder 42 = .ok (.aload_n 0, 1) := by decide +kernel
theorem dX6_readsOrder_43 : decode cX6_readsOrder 43 = .ok (.getfield 160, 3) := by decide +kernel
theorem dX6_readsOrder_46 : decode cX6_readsOrder 46 = .ok (.iaload, 1) := by decide +kernel
theorem dX6_readsOrder_47 : decode cX6_readsOrder 47 = .ok (.iastore, 1) := by decide +kernel
theorem dX6_readsOrder_48 : decode cX6_readsOrder 48 = .ok (.aload_n 0, 1) := by decide +kernel
theorem dX6_readsOrder_49 : decode cX6_readsOrder 49 = .ok (.dup, 1) := by decide +kernel
theorem dX6_readsOrder_50 : decode cX6_readsOrder 50 = .ok (.getfield 160, 3) := by decide +kernel
theorem dX6_readsOrder_53 : decode cX6_readsOrder 53 = .ok (.iconst 1, 1) := by decide +kernel
theorem dX6_readsOrder_54 : decode cX6_readsOrder 54 = .ok (.iadd, 1) := by decide +kernel
theorem dX6_readsOrder_55 : decode cX6_readsOrder 55 = .ok (.putfield 160, 3) := by decide +kernel
theorem dX6_readsOrder_58 : decode cX6_readsOrder 58 = .ok (.iload_n 2, 1) := by decide +kernel
theorem dX6_readsOrder_59 : decode cX6_readsOrder 59 = .ok (.ifCond .ne 13, 3) := by decide +kernel
theorem dX6_readsOrder_62 : decode cX6_readsOrder 62 = .ok (.aload_n 0, 1) := by decide +kernel
theorem dX6_readsOrder_63 : decode cX6_readsOrder 63 = .ok (.iload_n 1, 1) := by decide +kernel
theorem dX6_readsOrder_64 : decode cX6_readsOrder 64 = .ok (.invokevirtual 194, 3) := by decide +kernel
theorem dX6_readsOrder_67 : decode cX6_readsOrder 67 = .ok (.ifCond .ne 5, 3) := by decide +kernel
theorem dX6_readsOrder_70 : decode cX6_readsOrder 70 = .ok (.iconst 0, 1) := by decide +kernel
theorem dX6_readsOrder_71 : decode cX6_readsOrder 71 = .ok (.ireturn, 1) := by decide +kernel
theorem dX6_readsOrder_72 : decode cX6_readsOrder 72 = .ok (.iconst 0, 1) := by decide +kernel
theorem dX6_readsOrder_73 : decode cX6_readsOrder 73 = .ok (.istore_n 3, 1) := by decide +kernel
theorem dX6_readsOrder_74 : decode cX6_readsOrder 74 = .ok (.iload_n 3, 1) := by decide +kernel
theorem dX6_readsOrder_75 : decode cX6_readsOrder 75 = .ok (.iload_n 2, 1) := by decide +kernel
theorem dX6_readsOrder_76 : decode cX6_readsOrder 76 = .ok (.if_icmp .ge 32, 3) := by decide +kernel
theorem dX6_readsOrder_79 : decode cX6_readsOrder 79 = .ok (.aload_n 0, 1) := by decide +kernel
theorem dX6_readsOrder_80 : decode cX6_readsOrder 80 = .ok (.invokevirtual 181, 3) := by decide +kernel
theorem dX6_readsOrder_83 : decode cX6_readsOrder 83 = .ok (.ifCond .ne 5, 3) := by decide +kernel
theorem dX6_readsOrder_86 : decode cX6_readsOrder 86 = .ok (.iconst 0, 1) := by decide +kernel
theorem dX6_readsOrder_87 : decode cX6_readsOrder 87 = .ok (.ireturn, 1) := by decide +kernel
theorem dX6_readsOrder_88 : decode cX6_readsOrder 88 = .ok (.aload_n 0, 1) := by decide +kernel
theorem dX6_readsOrder_89 : decode cX6_readsOrder 89 = .ok (.getfield 31, 3) := by decide +kernel
theorem dX6_readsOrder_92 : decode cX6_readsOrder 92 = .ok (.iload_n 1, 1) := by decide +kernel
theorem dX6_readsOrder_93 : decode cX6_readsOrder 93 = .ok (.iconst 1, 1) := by decide +kernel
theorem dX6_readsOrder_94 : decode cX6_readsOrder 94 = .ok (.iadd, 1) := by decide +kernel
theorem dX6_readsOrder_95 : decode cX6_readsOrder 95 = .ok (.iload_n 3, 1) := by decide +kernel
theorem dX6_readsOrder_96 : decode cX6_readsOrder 96 = .ok (.iadd, 1) := by decide +kernel
theorem dX6_readsOrder_97 : decode cX6_readsOrder 97 = .ok (.aload_n 0, 1) := by decide +kernel
theorem dX6_readsOrder_98 : decode cX6_readsOrder 98 = .ok (.getfield 172, 3) := by decide +kernel
theorem dX6_readsOrder_101 : decode cX6_readsOrder 101 = .ok (.iastore, 1) := by decide +kernel
theorem dX6_readsOrder_102 : decode cX6_readsOrder 102 = .ok (.iinc 3 1, 3) := by decide +kernel
theorem dX6_readsOrder_105 : decode cX6_readsOrder 105 = .ok (.goto (-31), 3) := by decide +kernel
theorem dX6_readsOrder_108 : decode cX6_readsOrder 108 = .ok (.aload_n 0, 1) := by decide +kernel
theorem dX6_readsOrder_109 : decode cX6_readsOrder 109 = .ok (.invokevirtual 169, 3) := by decide +kernel
theorem dX6_readsOrder_112 : decode cX6_readsOrder 112 = .ok (.aload_n 0, 1) := by decide +kernel
theorem dX6_readsOrder_113 : decode cX6_readsOrder 113 = .ok (.aload_n 0, 1) := by decide +kernel
theorem dX6_readsOrder_114 : decode cX6_readsOrder 114 = .ok (.getfield 160, 3) := by decide +kernel
theorem dX6_readsOrder_117 : decode cX6_readsOrder 117 = .ok (.invokevirtual 163, 3) := by decide +kernel
theorem dX6_readsOrder_120 : decode cX6_readsOrder 120 = .ok (.bipush 59, 2) := by decide +kernel
theorem dX6_readsOrder_122 : decode cX6_readsOrder 122 = .ok (.if_icmp .eq 12, 3) := by decide +kernel
theorem dX6_readsOrder_125 : decode cX6_readsOrder 125 = .ok (.aload_n 0, 1) := by decide +kernel
theorem dX6_readsOrder_126 : decode cX6_readsOrder 126 = .ok (.aload_n 0, 1) := by decide +kernel
theorem dX6_readsOrder_127 : decode cX6_readsOrder 127 = .ok (.getfield 160, 3) := by decide +kernel
theorem dX6_readsOrder_130 : decode cX6_readsOrder 130 = .ok (.invokevirtual 178, 3) := by decide +kernel
theorem dX6_readsOrder_133 : decode cX6_readsOrder 133 = .ok (.ireturn, 1) := by decide +kernel
theorem dX6_readsOrder_134 : decode cX6_readsOrder 134 = .ok (.aload_n 0, 1) := by decide +kernel
theorem dX6_readsOrder_135 : decode cX6_readsOrder 135 = .ok (.dup, 1) := by decide +kernel
theorem dX6_readsOrder_136 : decode cX6_readsOrder 136 = .ok (.getfield 160, 3) := by decide +kernel
theorem dX6_readsOrder_139 : decode cX6_readsOrder 139 = .ok (.iconst 1, 1) := by decide +kernel
theorem dX6_readsOrder_140 : decode cX6_readsOrder 140 = .ok (.iadd, 1) := by decide +kernel
theorem dX6_readsOrder_141 : decode cX6_readsOrder 141 = .ok (.putfield 160, 3) := by decide +kernel
theorem dX6_readsOrder_144 : decode cX6_readsOrder 144 = .ok (.aload_n 0, 1) := by decide +kernel
theorem dX6_readsOrder_145 : decode cX6_readsOrder 145 = .ok (.dup, 1) := by decide +kernel
theorem dX6_readsOrder_146 : decode cX6_readsOrder 146 = .ok (.getfield 188, 3) := by decide +kernel
theorem dX6_readsOrder_149 : decode cX6_readsOrder 149 = .ok (.iconst 1, 1) := by decide +kernel
theorem dX6_readsOrder_150 : decode cX6_readsOrder 150 = .ok (.iadd, 1) := by decide +kernel
theorem dX6_readsOrder_151 : decode cX6_readsOrder 151 = .ok (.putfield 188, 3) := by decide +kernel
theorem dX6_readsOrder_154 : decode cX6_readsOrder 154 = .ok (.iconst 1, 1) := by decide +kernel
theorem dX6_readsOrder_155 : decode cX6_readsOrder 155 = .ok (.ireturn, 1) := by decide +kernel
theorem dX6_reads_0 : decode cX6_reads 0 = .ok (.aload_n 0, 1) := by decide +kernel
theorem dX6_reads_1 : decode cX6_reads 1 = .ok (.iconst 0, 1) := by decide +kernel
theorem dX6_reads_2 : decode cX6_reads 2 = .ok (.putfield 160, 3) := by decide +kernel
theorem dX6_reads_5 : decode cX6_reads 5 = .ok (.aload_n 0, 1) := by decide +kernel
theorem dX6_reads_6 : decode cX6_reads 6 = .ok (.iconst 0, 1) := by decide +kernel
theorem dX6_reads_7 : decode cX6_reads 7 = .ok (.putfield 188, 3) := by decide +kernel
theorem dX6_reads_10 : decode cX6_reads 10 = .ok (.aload_n 0, 1) := by decide +kernel
theorem dX6_reads_11 : decode cX6_reads 11 = .ok (.invokevirtual 169, 3) := by decide +kernel
theorem dX6_reads_14 : decode cX6_reads 14 = .ok (.aload_n 0, 1) := by decide +kernel
theorem dX6_reads_15 : decode cX6_reads 15 = .ok (.getfield 160, 3) := by decide +kernel
theorem dX6_reads_18 : decode cX6_reads 18 = .ok (.aload_n 0, 1) := by decide +kernel
theorem dX6_reads_19 : decode cX6_reads 19 = .ok (.getfield 34, 3) := by decide +kernel
theorem dX6_reads_22 : decode cX6_reads 22 = .ok (.if_icmp .lt 10, 3) := by decide +kernel
theorem dX6_reads_25 : decode cX6_reads 25 = .ok (.aload_n 0, 1) := by decide +kernel
theorem dX6_reads_26 : decode cX6_reads 26 = .ok (.getfield 188, 3) := by decide +kernel
theorem dX6_reads_29 : decode cX6_reads 29 = .ok (.ifCond .ne 19, 3) := by decide +kernel
theorem dX6_reads_32 : decode cX6_reads 32 = .ok (.aload_n 0, 1) := by decide +kernel
theorem dX6_reads_33 : decode cX6_reads 33 = .ok (.invokevirtual 197, 3) := by decide +kernel
theorem dX6_reads_36 : decode cX6_reads 36 = .ok (.ifCond .ne 5, 3) := by decide +kernel
theorem dX6_reads_39 : decode cX6_reads 39 = .ok (.iconst 0, 1) := by decide +kernel
theorem dX6_reads_40 : decode cX6_reads 40 = .ok (.ireturn, 1) := by decide +kernel
theorem dX6_reads_41 : decode cX6_reads 41 = .ok (.aload_n 0, 1) := by decide +kernel
theorem dX6_reads_42 : decode cX6_reads 42 = .ok (.invokevirtual 169, 3) := by decide +kernel
theorem dX6_reads_45 : decode cX6_reads 45 = .ok (.goto (-31), 3) := by decide +kernel
theorem dX6_reads_48 : decode cX6_reads 48 = .ok (.iconst 1, 1) := by decide +kernel
theorem dX6_reads_49 : decode cX6_reads 49 = .ok (.ireturn, 1) := by decide +kernel
theorem dX6_doesOne_0 : decode cX6_doesOne 0 = .ok (.aload_n 0, 1) := by decide +kernel
theorem dX6_doesOne_1 : decode cX6_doesOne 1 = .ok (.getfield 31, 3) := by decide +kernel
theorem dX6_doesOne_4 : decode cX6_doesOne 4 = .ok (.iload_n 1, 1) := by decide +kernel
theorem dX6_doesOne_5 : decode cX6_doesOne 5 = .ok (.iconst 1, 1) := by decide +kernel
theorem dX6_doesOne_6 : decode cX6_doesOne 6 = .ok (.iadd, 1) := by decide +kernel
theorem dX6_doesOne_7 : decode cX6_doesOne 7 = .ok (.iaload, 1) := by decide +kernel
theorem dX6_doesOne_8 : decode cX6_doesOne 8 = .ok (.istore_n 2, 1) := by decide +kernel
theorem dX6_doesOne_9 : decode cX6_doesOne 9 = .ok (.aload_n 0, 1) := by decide +kernel
theorem dX6_doesOne_10 : decode cX6_doesOne 10 = .ok (.getfield 31, 3) := by decide +kernel
theorem dX6_doesOne_13 : decode cX6_doesOne 13 = .ok (.iload_n 1, 1) := by decide +kernel
theorem dX6_doesOne_14 : decode cX6_doesOne 14 = .ok (.iconst 2, 1) := by decide +kernel
theorem dX6_doesOne_15 : decode cX6_doesOne 15 = .ok (.iadd, 1) := by decide +kernel
theorem dX6_doesOne_16 : decode cX6_doesOne 16 = .ok (.iaload, 1) := by decide +kernel
theorem dX6_doesOne_17 : decode cX6_doesOne 17 = .ok (.istore_n 3, 1) := by decide +kernel
theorem dX6_doesOne_18 : decode cX6_doesOne 18 = .ok (.aload_n 0, 1) := by decide +kernel
theorem dX6_doesOne_19 : decode cX6_doesOne 19 = .ok (.getfield 31, 3) := by decide +kernel
theorem dX6_doesOne_22 : decode cX6_doesOne 22 = .ok (.iload_n 1, 1) := by decide +kernel
theorem dX6_doesOne_23 : decode cX6_doesOne 23 = .ok (.iaload, 1) := by decide +kernel
theorem dX6_doesOne_24 : decode cX6_doesOne 24 = .ok (.lookupswitch 103 #[(100, 84), (103, 91), (112, 97), (117, 52), (119, 68)], 52) := by decide +kernel
theorem dX6_doesOne_76 : decode cX6_doesOne 76 = .ok (.aload_n 0, 1) := by decide +kernel
theorem dX6_doesOne_77 : decode cX6_doesOne 77 = .ok (.iload_n 2, 1) := by decide +kernel
theorem dX6_doesOne_78 : decode cX6_doesOne 78 = .ok (.iload_n 3, 1) := by decide +kernel
theorem dX6_doesOne_79 : decode cX6_doesOne 79 = .ok (.iconst 1, 1) := by decide +kernel
theorem dX6_doesOne_80 : decode cX6_doesOne 80 = .ok (.aload_n 0, 1) := by decide +kernel
theorem dX6_doesOne_81 : decode cX6_doesOne 81 = .ok (.getfield 31, 3) := by decide +kernel
theorem dX6_doesOne_84 : decode cX6_doesOne 84 = .ok (.iload_n 1, 1) := by decide +kernel
theorem dX6_doesOne_85 : decode cX6_doesOne 85 = .ok (.iconst 3, 1) := by decide +kernel
theorem dX6_doesOne_86 : decode cX6_doesOne 86 = .ok (.iadd, 1) := by decide +kernel
theorem dX6_doesOne_87 : decode cX6_doesOne 87 = .ok (.iaload, 1) := by decide +kernel
theorem dX6_doesOne_88 : decode cX6_doesOne 88 = .ok (.invokevirtual 86, 3) := by decide +kernel
theorem dX6_doesOne_91 : decode cX6_doesOne 91 = .ok (.ireturn, 1) := by decide +kernel
theorem dX6_doesOne_92 : decode cX6_doesOne 92 = .ok (.aload_n 0, 1) := by decide +kernel
theorem dX6_doesOne_93 : decode cX6_doesOne 93 = .ok (.iload_n 2, 1) := by decide +kernel
theorem dX6_doesOne_94 : decode cX6_doesOne 94 = .ok (.iload_n 3, 1) := by decide +kernel
theorem dX6_doesOne_95 : decode cX6_doesOne 95 = .ok (.iconst 2, 1) := by decide +kernel
theorem dX6_doesOne_96 : decode cX6_doesOne 96 = .ok (.aload_n 0, 1) := by decide +kernel
theorem dX6_doesOne_97 : decode cX6_doesOne 97 = .ok (.getfield 31, 3) := by decide +kernel
theorem dX6_doesOne_100 : decode cX6_doesOne 100 = .ok (.iload_n 1, 1) := by decide +kernel
theorem dX6_doesOne_101 : decode cX6_doesOne 101 = .ok (.iconst 3, 1) := by decide +kernel
theorem dX6_doesOne_102 : decode cX6_doesOne 102 = .ok (.iadd, 1) := by decide +kernel
theorem dX6_doesOne_103 : decode cX6_doesOne 103 = .ok (.iaload, 1) := by decide +kernel
theorem dX6_doesOne_104 : decode cX6_doesOne 104 = .ok (.invokevirtual 86, 3) := by decide +kernel
theorem dX6_doesOne_107 : decode cX6_doesOne 107 = .ok (.ireturn, 1) := by decide +kernel
theorem dX6_doesOne_108 : decode cX6_doesOne 108 = .ok (.aload_n 0, 1) := by decide +kernel
theorem dX6_doesOne_109 : decode cX6_doesOne 109 = .ok (.iload_n 2, 1) := by decide +kernel
theorem dX6_doesOne_110 : decode cX6_doesOne 110 = .ok (.iload_n 3, 1) := by decide +kernel
theorem dX6_doesOne_111 : decode cX6_doesOne 111 = .ok (.invokevirtual 75, 3) := by decide +kernel
theorem dX6_doesOne_114 : decode cX6_doesOne 114 = .ok (.ireturn, 1) := by decide +kernel
theorem dX6_doesOne_115 : decode cX6_doesOne 115 = .ok (.aload_n 0, 1) := by decide +kernel
theorem dX6_doesOne_116 : decode cX6_doesOne 116 = .ok (.iload_n 2, 1) := by decide +kernel
theorem dX6_doesOne_117 : decode cX6_doesOne 117 = .ok (.invokevirtual 90, 3) := by decide +kernel
theorem dX6_doesOne_120 : decode cX6_doesOne 120 = .ok (.ireturn, 1) := by decide +kernel
theorem dX6_doesOne_121 : decode cX6_doesOne 121 = .ok (.aload_n 0, 1) := by decide +kernel
theorem dX6_doesOne_122 : decode cX6_doesOne 122 = .ok (.iload_n 2, 1) := by decide +kernel
theorem dX6_doesOne_123 : decode cX6_doesOne 123 = .ok (.invokevirtual 96, 3) := by decide +kernel
theorem dX6_doesOne_126 : decode cX6_doesOne 126 = .ok (.ireturn, 1) := by decide +kernel
theorem dX6_doesOne_127 : decode cX6_doesOne 127 = .ok (.aload_n 0, 1) := by decide +kernel
theorem dX6_doesOne_128 : decode cX6_doesOne 128 = .ok (.invokevirtual 82, 3) := by decide +kernel
theorem dX6_doesOne_131 : decode cX6_doesOne 131 = .ok (.istore 4, 2) := by decide +kernel
theorem dX6_doesOne_133 : decode cX6_doesOne 133 = .ok (.iconst 0, 1) := by decide +kernel
theorem dX6_doesOne_134 : decode cX6_doesOne 134 = .ok (.istore 5, 2) := by decide +kernel
theorem dX6_doesOne_136 : decode cX6_doesOne 136 = .ok (.iload 5, 2) := by decide +kernel
theorem dX6_doesOne_138 : decode cX6_doesOne 138 = .ok (.bipush 12, 2) := by decide +kernel
theorem dX6_doesOne_140 : decode cX6_doesOne 140 = .ok (.if_icmp .ge 58, 3) := by decide +kernel
theorem dX6_doesOne_143 : decode cX6_doesOne 143 = .ok (.iload 4, 2) := by decide +kernel
theorem dX6_doesOne_145 : decode cX6_doesOne 145 = .ok (.ifCond .lt 53, 3) := by decide +kernel
theorem dX6_doesOne_148 : decode cX6_doesOne 148 = .ok (.aload_n 0, 1) := by decide +kernel
theorem dX6_doesOne_149 : decode cX6_doesOne 149 = .ok (.getfield 7, 3) := by decide +kernel
theorem dX6_doesOne_152 : decode cX6_doesOne 152 = .ok (.aload_n 0, 1) := by decide +kernel
theorem dX6_doesOne_153 : decode cX6_doesOne 153 = .ok (.iload 4, 2) := by decide +kernel
theorem dX6_doesOne_155 : decode cX6_doesOne 155 = .ok (.iload 5, 2) := by decide +kernel
theorem dX6_doesOne_157 : decode cX6_doesOne 157 = .ok (.iconst 0, 1) := by decide +kernel
theorem dX6_doesOne_158 : decode cX6_doesOne 158 = .ok (.invokevirtual 56, 3) := by decide +kernel
theorem dX6_doesOne_161 : decode cX6_doesOne 161 = .ok (.aload_n 0, 1) := by decide +kernel
theorem dX6_doesOne_162 : decode cX6_doesOne 162 = .ok (.getfield 31, 3) := by decide +kernel
theorem dX6_doesOne_165 : decode cX6_doesOne 165 = .ok (.iload_n 1, 1) := by decide +kernel
theorem dX6_doesOne_166 : decode cX6_doesOne 166 = .ok (.iconst 1, 1) := by decide +kernel
theorem dX6_doesOne_167 : decode cX6_doesOne 167 = .ok (.iadd, 1) := by decide +kernel
theorem dX6_doesOne_168 : decode cX6_doesOne 168 = .ok (.iload 5, 2) := by decide +kernel
theorem dX6_doesOne_170 : decode cX6_doesOne 170 = .ok (.iadd, 1) := by decide +kernel
theorem dX6_doesOne_171 : decode cX6_doesOne 171 = .ok (.iaload, 1) := by decide +kernel
theorem dX6_doesOne_172 : decode cX6_doesOne 172 = .ok (.ifCond .ge 8, 3) := by decide +kernel
theorem dX6_doesOne_175 : decode cX6_doesOne 175 = .ok (.iload 5, 2) := by decide +kernel
theorem dX6_doesOne_177 : decode cX6_doesOne 177 = .ok (.goto 14, 3) := by decide +kernel
theorem dX6_doesOne_180 : decode cX6_doesOne 180 = .ok (.aload_n 0, 1) := by decide +kernel
theorem dX6_doesOne_181 : decode cX6_doesOne 181 = .ok (.getfield 31, 3) := by decide +kernel
theorem dX6_doesOne_184 : decode cX6_doesOne 184 = .ok (.iload_n 1, 1) := by decide +kernel
theorem dX6_doesOne_185 : decode cX6_doesOne 185 = .ok (.iconst 1, 1) := by decide +kernel
theorem dX6_doesOne_186 : decode cX6_doesOne 186 = .ok (.iadd, 1) := by decide +kernel
theorem dX6_doesOne_187 : decode cX6_doesOne 187 = .ok (.iload 5, 2) := by decide +kernel
theorem dX6_doesOne_189 : decode cX6_doesOne 189 = .ok (.iadd, 1) := by decide +kernel
theorem dX6_doesOne_190 : decode cX6_doesOne 190 = .ok (.iaload, 1) := by decide +kernel
theorem dX6_doesOne_191 : decode cX6_doesOne 191 = .ok (.iastore, 1) := by decide +kernel
theorem dX6_doesOne_192 : decode cX6_doesOne 192 = .ok (.iinc 5 1, 3) := by decide +kernel
theorem dX6_doesOne_195 : decode cX6_doesOne 195 = .ok (.goto (-59), 3) := by decide +kernel
theorem dX6_doesOne_198 : decode cX6_doesOne 198 = .ok (.iload 4, 2) := by decide +kernel
theorem dX6_doesOne_200 : decode cX6_doesOne 200 = .ok (.ireturn, 1) := by decide +kernel
theorem dX6_does_0 : decode cX6_does 0 = .ok (.aload_n 0, 1) := by decide +kernel
theorem dX6_does_1 : decode cX6_does 1 = .ok (.invokevirtual 200, 3) := by decide +kernel
theorem dX6_does_4 : decode cX6_does 4 = .ok (.ifCond .ne 11, 3) := by decide +kernel
theorem dX6_does_7 : decode cX6_does 7 = .ok (.bipush (-10), 2) := by decide +kernel
theorem dX6_does_9 : decode cX6_does 9 = .ok (.aload_n 0, 1) := by decide +kernel
theorem dX6_does_10 : decode cX6_does 10 = .ok (.getfield 166, 3) := by decide +kernel
theorem dX6_does_13 : decode cX6_does 13 = .ok (.isub, 1) := by decide +kernel
theorem dX6_does_14 : decode cX6_does 14 = .ok (.ireturn, 1) := by decide +kernel
theorem dX6_does_15 : decode cX6_does 15 = .ok (.aload_n 0, 1) := by decide +kernel
theorem dX6_does_16 : decode cX6_does 16 = .ok (.invokevirtual 72, 3) := by decide +kernel
theorem dX6_does_19 : decode cX6_does 19 = .ok (.iconst 0, 1) := by decide +kernel
theorem dX6_does_20 : decode cX6_does 20 = .ok (.istore_n 1, 1) := by decide +kernel
theorem dX6_does_21 : decode cX6_does 21 = .ok (.iload_n 1, 1) := by decide +kernel
theorem dX6_does_22 : decode cX6_does 22 = .ok (.aload_n 0, 1) := by decide +kernel
theorem dX6_does_23 : decode cX6_does 23 = .ok (.getfield 188, 3) := by decide +kernel
theorem dX6_does_26 : decode cX6_does 26 = .ok (.if_icmp .ge 54, 3) := by decide +kernel
theorem dX6_does_29 : decode cX6_does 29 = .ok (.aload_n 0, 1) := by decide +kernel
theorem dX6_does_30 : decode cX6_does 30 = .ok (.bipush 13, 2) := by decide +kernel
theorem dX6_does_32 : decode cX6_does 32 = .ok (.iload_n 1, 1) := by decide +kernel
theorem dX6_does_33 : decode cX6_does 33 = .ok (.imul, 1) := by decide +kernel
theorem dX6_does_34 : decode cX6_does 34 = .ok (.invokevirtual 203, 3) := by decide +kernel
theorem dX6_does_37 : decode cX6_does 37 = .ok (.iconst (-1), 1) := by decide +kernel
theorem dX6_does_38 : decode cX6_does 38 = .ok (.if_icmp .ge 36, 3) := by decide +kernel
theorem dX6_does_41 : decode cX6_does 41 = .ok (.iconst 0, 1) := by decide +kernel
theorem dX6_does_42 : decode cX6_does 42 = .ok (.istore_n 2, 1) := by decide +kernel
theorem dX6_does_43 : decode cX6_does 43 = .ok (.iload_n 2, 1) := by decide +kernel
theorem dX6_does_44 : decode cX6_does 44 = .ok (.sipush 336, 3) := by decide +kernel
theorem dX6_does_47 : decode cX6_does 47 = .ok (.if_icmp .ge 21, 3) := by decide +kernel
theorem dX6_does_50 : decode cX6_does 50 = .ok (.aload_n 0, 1) := by decide +kernel
theorem dX6_does_51 : decode cX6_does 51 = .ok (.getfield 7, 3) := by decide +kernel
theorem dX6_does_54 : decode cX6_does 54 = .ok (.iload_n 2, 1) := by decide +kernel
theorem dX6_does_55 : decode cX6_does 55 = .ok (.aload_n 0, 1) := by decide +kernel
theorem dX6_does_56 : decode cX6_does 56 = .ok (.getfield 16, 3) := by decide +kernel
theorem dX6_does_59 : decode cX6_does 59 = .ok (.iload_n 2, 1) := by decide +kernel
theorem dX6_does_60 : decode cX6_does 60 = .ok (.iaload, 1) := by decide +kernel
theorem dX6_does_61 : decode cX6_does 61 = .ok (.iastore, 1) := by decide +kernel
theorem dX6_does_62 : decode cX6_does 62 = .ok (.iinc 2 1, 3) := by decide +kernel
theorem dX6_does_65 : decode cX6_does 65 = .ok (.goto (-22), 3) := by decide +kernel
theorem dX6_does_68 : decode cX6_does 68 = .ok (.sipush (-1000), 3) := by decide +kernel
theorem dX6_does_71 : decode cX6_does 71 = .ok (.iload_n 1, 1) := by decide +kernel
theorem dX6_does_72 : decode cX6_does 72 = .ok (.isub, 1) := by decide +kernel
theorem dX6_does_73 : decode cX6_does 73 = .ok (.ireturn, 1) := by decide +kernel
theorem dX6_does_74 : decode cX6_does 74 = .ok (.iinc 1 1, 3) := by decide +kernel
theorem dX6_does_77 : decode cX6_does 77 = .ok (.goto (-56), 3) := by decide +kernel
theorem dX6_does_80 : decode cX6_does 80 = .ok (.aload_n 0, 1) := by decide +kernel
theorem dX6_does_81 : decode cX6_does 81 = .ok (.aload_n 0, 1) := by decide +kernel
theorem dX6_does_82 : decode cX6_does 82 = .ok (.getfield 188, 3) := by decide +kernel
theorem dX6_does_85 : decode cX6_does 85 = .ok (.invokevirtual 79, 3) := by decide +kernel
theorem dX6_does_88 : decode cX6_does 88 = .ok (.ireturn, 1) := by decide +kernel
theorem dX6_toldOf_0 : decode cX6_toldOf 0 = .ok (.iload_n 1, 1) := by decide +kernel
theorem dX6_toldOf_1 : decode cX6_toldOf 1 = .ok (.iconst 0, 1) := by decide +kernel
theorem dX6_toldOf_2 : decode cX6_toldOf 2 = .ok (.iconst 4, 1) := by decide +kernel
theorem dX6_toldOf_3 : decode cX6_toldOf 3 = .ok (.invokestatic 48, 3) := by decide +kernel
theorem dX6_toldOf_6 : decode cX6_toldOf 6 = .ok (.ifCond .eq 36, 3) := by decide +kernel
theorem dX6_toldOf_9 : decode cX6_toldOf 9 = .ok (.iload_n 1, 1) := by decide +kernel
theorem dX6_toldOf_10 : decode cX6_toldOf 10 = .ok (.iconst 3, 1) := by decide +kernel
theorem dX6_toldOf_11 : decode cX6_toldOf 11 = .ok (.if_icmp .ge 12, 3) := by decide +kernel
theorem dX6_toldOf_14 : decode cX6_toldOf 14 = .ok (.aload_n 0, 1) := by decide +kernel
theorem dX6_toldOf_15 : decode cX6_toldOf 15 = .ok (.getfield 19, 3) := by decide +kernel
theorem dX6_toldOf_18 : decode cX6_toldOf 18 = .ok (.iload_n 1, 1) := by decide +kernel
theorem dX6_toldOf_19 : decode cX6_toldOf 19 = .ok (.iaload, 1) := by decide +kernel
theorem dX6_toldOf_20 : decode cX6_toldOf 20 = .ok (.goto 24, 3) := by decide +kernel
theorem dX6_toldOf_23 : decode cX6_toldOf 23 = .ok (.iload_n 1, 1) := by decide +kernel
theorem dX6_toldOf_24 : decode cX6_toldOf 24 = .ok (.iconst 3, 1) := by decide +kernel
theorem dX6_toldOf_25 : decode cX6_toldOf 25 = .ok (.if_icmp .ne 10, 3) := by decide +kernel
theorem dX6_toldOf_28 : decode cX6_toldOf 28 = .ok (.aload_n 0, 1) := by decide +kernel
theorem dX6_toldOf_29 : decode cX6_toldOf 29 = .ok (.getfield 34, 3) := by decide +kernel
theorem dX6_toldOf_32 : decode cX6_toldOf 32 = .ok (.goto 12, 3) := by decide +kernel
theorem dX6_toldOf_35 : decode cX6_toldOf 35 = .ok (.aload_n 0, 1) := by decide +kernel
theorem dX6_toldOf_36 : decode cX6_toldOf 36 = .ok (.getfield 42, 3) := by decide +kernel
theorem dX6_toldOf_39 : decode cX6_toldOf 39 = .ok (.goto 5, 3) := by decide +kernel
theorem dX6_toldOf_42 : decode cX6_toldOf 42 = .ok (.bipush (-2), 2) := by decide +kernel
theorem dX6_toldOf_44 : decode cX6_toldOf 44 = .ok (.ireturn, 1) := by decide +kernel
theorem dX6_told_0 : decode cX6_told 0 = .ok (.aload_n 0, 1) := by decide +kernel
theorem dX6_told_1 : decode cX6_told 1 = .ok (.aload_n 0, 1) := by decide +kernel
theorem dX6_told_2 : decode cX6_told 2 = .ok (.iload_n 1, 1) := by decide +kernel
theorem dX6_told_3 : decode cX6_told 3 = .ok (.invokevirtual 206, 3) := by decide +kernel
theorem dX6_told_6 : decode cX6_told 6 = .ok (.invokevirtual 114, 3) := by decide +kernel
theorem dX6_told_9 : decode cX6_told 9 = .ok (.ireturn, 1) := by decide +kernel
theorem dX6_digest_0 : decode cX6_digest 0 = .ok (.ldc2_w 209, 3) := by decide +kernel
theorem dX6_digest_3 : decode cX6_digest 3 = .ok (.lstore_n 1, 1) := by decide +kernel
theorem dX6_digest_4 : decode cX6_digest 4 = .ok (.iconst 0, 1) := by decide +kernel
theorem dX6_digest_5 : decode cX6_digest 5 = .ok (.istore_n 3, 1) := by decide +kernel
theorem dX6_digest_6 : decode cX6_digest 6 = .ok (.iload_n 3, 1) := by decide +kernel
theorem dX6_digest_7 : decode cX6_digest 7 = .ok (.bipush 12, 2) := by decide +kernel
theorem dX6_digest_9 : decode cX6_digest 9 = .ok (.if_icmp .ge 37, 3) := by decide +kernel
theorem dX6_digest_12 : decode cX6_digest 12 = .ok (.ldc2_w 211, 3) := by decide +kernel
theorem dX6_digest_15 : decode cX6_digest 15 = .ok (.lload_n 1, 1) := by decide +kernel
theorem dX6_digest_16 : decode cX6_digest 16 = .ok (.lmul, 1) := by decide +kernel
theorem dX6_digest_17 : decode cX6_digest 17 = .ok (.iload_n 3, 1) := by decide +kernel
theorem dX6_digest_18 : decode cX6_digest 18 = .ok (.iconst 5, 1) := by decide +kernel
theorem dX6_digest_19 : decode cX6_digest 19 = .ok (.if_icmp .ge 11, 3) := by decide +kernel
theorem dX6_digest_22 : decode cX6_digest 22 = .ok (.aload_n 0, 1) := by decide +kernel
theorem dX6_digest_23 : decode cX6_digest 23 = .ok (.iload_n 3, 1) := by decide +kernel
theorem dX6_digest_24 : decode cX6_digest 24 = .ok (.invokevirtual 206, 3) := by decide +kernel
theorem dX6_digest_27 : decode cX6_digest 27 = .ok (.goto 10, 3) := by decide +kernel
theorem dX6_digest_30 : decode cX6_digest 30 = .ok (.aload_n 0, 1) := by decide +kernel
theorem dX6_digest_31 : decode cX6_digest 31 = .ok (.iload_n 3, 1) := by decide +kernel
theorem dX6_digest_32 : decode cX6_digest 32 = .ok (.iconst 5, 1) := by decide +kernel
theorem dX6_digest_33 : decode cX6_digest 33 = .ok (.isub, 1) := by decide +kernel
theorem dX6_digest_34 : decode cX6_digest 34 = .ok (.invokevirtual 157, 3) := by decide +kernel
theorem dX6_digest_37 : decode cX6_digest 37 = .ok (.i2l, 1) := by decide +kernel
theorem dX6_digest_38 : decode cX6_digest 38 = .ok (.ladd, 1) := by decide +kernel
theorem dX6_digest_39 : decode cX6_digest 39 = .ok (.lstore_n 1, 1) := by decide +kernel
theorem dX6_digest_40 : decode cX6_digest 40 = .ok (.iinc 3 1, 3) := by decide +kernel
theorem dX6_digest_43 : decode cX6_digest 43 = .ok (.goto (-37), 3) := by decide +kernel
theorem dX6_digest_46 : decode cX6_digest 46 = .ok (.iconst 0, 1) := by decide +kernel
theorem dX6_digest_47 : decode cX6_digest 47 = .ok (.istore_n 3, 1) := by decide +kernel
theorem dX6_digest_48 : decode cX6_digest 48 = .ok (.iload_n 3, 1) := by decide +kernel
theorem dX6_digest_49 : decode cX6_digest 49 = .ok (.aload_n 0, 1) := by decide +kernel
theorem dX6_digest_50 : decode cX6_digest 50 = .ok (.getfield 7, 3) := by decide +kernel
theorem dX6_digest_53 : decode cX6_digest 53 = .ok (.iconst 0, 1) := by decide +kernel
theorem dX6_digest_54 : decode cX6_digest 54 = .ok (.iaload, 1) := by decide +kernel
theorem dX6_digest_55 : decode cX6_digest 55 = .ok (.if_icmp .ge 40, 3) := by decide +kernel
theorem dX6_digest_58 : decode cX6_digest 58 = .ok (.iconst 0, 1) := by decide +kernel
theorem dX6_digest_59 : decode cX6_digest 59 = .ok (.istore 4, 2) := by decide +kernel
theorem dX6_digest_61 : decode cX6_digest 61 = .ok (.iload 4, 2) := by decide +kernel
theorem dX6_digest_63 : decode cX6_digest 63 = .ok (.bipush 7, 2) := by decide +kernel
theorem dX6_digest_65 : decode cX6_digest 65 = .ok (.if_icmp .ge 24, 3) := by decide +kernel
theorem dX6_digest_68 : decode cX6_digest 68 = .ok (.ldc2_w 211, 3) := by decide +kernel
theorem dX6_digest_71 : decode cX6_digest 71 = .ok (.lload_n 1, 1) := by decide +kernel
theorem dX6_digest_72 : decode cX6_digest 72 = .ok (.lmul, 1) := by decide +kernel
theorem dX6_digest_73 : decode cX6_digest 73 = .ok (.aload_n 0, 1) := by decide +kernel
theorem dX6_digest_74 : decode cX6_digest 74 = .ok (.iload_n 3, 1) := by decide +kernel
theorem dX6_digest_75 : decode cX6_digest 75 = .ok (.iload 4, 2) := by decide +kernel
theorem dX6_digest_77 : decode cX6_digest 77 = .ok (.invokevirtual 111, 3) := by decide +kernel
theorem dX6_digest_80 : decode cX6_digest 80 = .ok (.i2l, 1) := by decide +kernel
theorem dX6_digest_81 : decode cX6_digest 81 = .ok (.ladd, 1) := by decide +kernel
theorem dX6_digest_82 : decode cX6_digest 82 = .ok (.lstore_n 1, 1) := by decide +kernel
theorem dX6_digest_83 : decode cX6_digest 83 = .ok (.iinc 4 1, 3) := by decide +kernel
theorem dX6_digest_86 : decode cX6_digest 86 = .ok (.goto (-25), 3) := by decide +kernel
theorem dX6_digest_89 : decode cX6_digest 89 = .ok (.iinc 3 1, 3) := by decide +kernel
theorem dX6_digest_92 : decode cX6_digest 92 = .ok (.goto (-44), 3) := by decide +kernel
end
section
theorem dX6_digest_95 : decode cX6_digest 95 = .ok (.iconst 0, 1) := by decide +kernel
theorem dX6_digest_96 : decode cX6_digest 96 = .ok (.istore_n 3, 1) := by decide +kernel
theorem dX6_digest_97 : decode cX6_digest 97 = .ok (.iload_n 3, 1) := by decide +kernel
theorem dX6_digest_98 : decode cX6_digest 98 = .ok (.aload_n 0, 1) := by decide +kernel
theorem dX6_digest_99 : decode cX6_digest 99 = .ok (.getfield 7, 3) := by decide +kernel
theorem dX6_digest_102 : decode cX6_digest 102 = .ok (.iconst 1, 1) := by decide +kernel
theorem dX6_digest_103 : decode cX6_digest 103 = .ok (.iaload, 1) := by decide +kernel
theorem dX6_digest_104 : decode cX6_digest 104 = .ok (.if_icmp .ge 76, 3) := by decide +kernel
theorem dX6_digest_107 : decode cX6_digest 107 = .ok (.iconst 0, 1) := by decide +kernel
theorem dX6_digest_108 : decode cX6_digest 108 = .ok (.istore 4, 2) := by decide +kernel
theorem dX6_digest_110 : decode cX6_digest 110 = .ok (.iload 4, 2) := by decide +kernel
theorem dX6_digest_112 : decode cX6_digest 112 = .ok (.bipush 36, 2) := by decide +kernel
theorem dX6_digest_114 : decode cX6_digest 114 = .ok (.if_icmp .ge 30, 3) := by decide +kernel
theorem dX6_digest_117 : decode cX6_digest 117 = .ok (.ldc2_w 211, 3) := by decide +kernel
theorem dX6_digest_120 : decode cX6_digest 120 = .ok (.lload_n 1, 1) := by decide +kernel
theorem dX6_digest_121 : decode cX6_digest 121 = .ok (.lmul, 1) := by decide +kernel
theorem dX6_digest_122 : decode cX6_digest 122 = .ok (.aload_n 0, 1) := by decide +kernel
theorem dX6_digest_123 : decode cX6_digest 123 = .ok (.iload_n 3, 1) := by decide +kernel
theorem dX6_digest_124 : decode cX6_digest 124 = .ok (.iload 4, 2) := by decide +kernel
theorem dX6_digest_126 : decode cX6_digest 126 = .ok (.iconst 3, 1) := by decide +kernel
theorem dX6_digest_127 : decode cX6_digest 127 = .ok (.idiv, 1) := by decide +kernel
theorem dX6_digest_128 : decode cX6_digest 128 = .ok (.iload 4, 2) := by decide +kernel
theorem dX6_digest_130 : decode cX6_digest 130 = .ok (.iconst 3, 1) := by decide +kernel
theorem dX6_digest_131 : decode cX6_digest 131 = .ok (.irem, 1) := by decide +kernel
theorem dX6_digest_132 : decode cX6_digest 132 = .ok (.invokevirtual 117, 3) := by decide +kernel
theorem dX6_digest_135 : decode cX6_digest 135 = .ok (.i2l, 1) := by decide +kernel
theorem dX6_digest_136 : decode cX6_digest 136 = .ok (.ladd, 1) := by decide +kernel
theorem dX6_digest_137 : decode cX6_digest 137 = .ok (.lstore_n 1, 1) := by decide +kernel
theorem dX6_digest_138 : decode cX6_digest 138 = .ok (.iinc 4 1, 3) := by decide +kernel
theorem dX6_digest_141 : decode cX6_digest 141 = .ok (.goto (-31), 3) := by decide +kernel
theorem dX6_digest_144 : decode cX6_digest 144 = .ok (.iconst 0, 1) := by decide +kernel
theorem dX6_digest_145 : decode cX6_digest 145 = .ok (.istore 4, 2) := by decide +kernel
theorem dX6_digest_147 : decode cX6_digest 147 = .ok (.iload 4, 2) := by decide +kernel
theorem dX6_digest_149 : decode cX6_digest 149 = .ok (.iconst 4, 1) := by decide +kernel
theorem dX6_digest_150 : decode cX6_digest 150 = .ok (.if_icmp .ge 24, 3) := by decide +kernel
theorem dX6_digest_153 : decode cX6_digest 153 = .ok (.ldc2_w 211, 3) := by decide +kernel
theorem dX6_digest_156 : decode cX6_digest 156 = .ok (.lload_n 1, 1) := by decide +kernel
theorem dX6_digest_157 : decode cX6_digest 157 = .ok (.lmul, 1) := by decide +kernel
theorem dX6_digest_158 : decode cX6_digest 158 = .ok (.aload_n 0, 1) := by decide +kernel
theorem dX6_digest_159 : decode cX6_digest 159 = .ok (.iload_n 3, 1) := by decide +kernel
theorem dX6_digest_160 : decode cX6_digest 160 = .ok (.iload 4, 2) := by decide +kernel
theorem dX6_digest_162 : decode cX6_digest 162 = .ok (.invokevirtual 129, 3) := by decide +kernel
theorem dX6_digest_165 : decode cX6_digest 165 = .ok (.i2l, 1) := by decide +kernel
theorem dX6_digest_166 : decode cX6_digest 166 = .ok (.ladd, 1) := by decide +kernel
theorem dX6_digest_167 : decode cX6_digest 167 = .ok (.lstore_n 1, 1) := by decide +kernel
theorem dX6_digest_168 : decode cX6_digest 168 = .ok (.iinc 4 1, 3) := by decide +kernel
theorem dX6_digest_171 : decode cX6_digest 171 = .ok (.goto (-24), 3) := by decide +kernel
theorem dX6_digest_174 : decode cX6_digest 174 = .ok (.iinc 3 1, 3) := by decide +kernel
theorem dX6_digest_177 : decode cX6_digest 177 = .ok (.goto (-80), 3) := by decide +kernel
theorem dX6_digest_180 : decode cX6_digest 180 = .ok (.iconst 0, 1) := by decide +kernel
theorem dX6_digest_181 : decode cX6_digest 181 = .ok (.istore_n 3, 1) := by decide +kernel
theorem dX6_digest_182 : decode cX6_digest 182 = .ok (.iload_n 3, 1) := by decide +kernel
theorem dX6_digest_183 : decode cX6_digest 183 = .ok (.aload_n 0, 1) := by decide +kernel
theorem dX6_digest_184 : decode cX6_digest 184 = .ok (.getfield 7, 3) := by decide +kernel
theorem dX6_digest_187 : decode cX6_digest 187 = .ok (.iconst 2, 1) := by decide +kernel
theorem dX6_digest_188 : decode cX6_digest 188 = .ok (.iaload, 1) := by decide +kernel
theorem dX6_digest_189 : decode cX6_digest 189 = .ok (.if_icmp .ge 27, 3) := by decide +kernel
theorem dX6_digest_192 : decode cX6_digest 192 = .ok (.ldc2_w 211, 3) := by decide +kernel
theorem dX6_digest_195 : decode cX6_digest 195 = .ok (.lload_n 1, 1) := by decide +kernel
theorem dX6_digest_196 : decode cX6_digest 196 = .ok (.lmul, 1) := by decide +kernel
theorem dX6_digest_197 : decode cX6_digest 197 = .ok (.aload_n 0, 1) := by decide +kernel
theorem dX6_digest_198 : decode cX6_digest 198 = .ok (.getfield 7, 3) := by decide +kernel
theorem dX6_digest_201 : decode cX6_digest 201 = .ok (.sipush 324, 3) := by decide +kernel
theorem dX6_digest_204 : decode cX6_digest 204 = .ok (.iload_n 3, 1) := by decide +kernel
theorem dX6_digest_205 : decode cX6_digest 205 = .ok (.iadd, 1) := by decide +kernel
theorem dX6_digest_206 : decode cX6_digest 206 = .ok (.iaload, 1) := by decide +kernel
theorem dX6_digest_207 : decode cX6_digest 207 = .ok (.i2l, 1) := by decide +kernel
theorem dX6_digest_208 : decode cX6_digest 208 = .ok (.ladd, 1) := by decide +kernel
theorem dX6_digest_209 : decode cX6_digest 209 = .ok (.lstore_n 1, 1) := by decide +kernel
theorem dX6_digest_210 : decode cX6_digest 210 = .ok (.iinc 3 1, 3) := by decide +kernel
theorem dX6_digest_213 : decode cX6_digest 213 = .ok (.goto (-31), 3) := by decide +kernel
theorem dX6_digest_216 : decode cX6_digest 216 = .ok (.lload_n 1, 1) := by decide +kernel
theorem dX6_digest_217 : decode cX6_digest 217 = .ok (.lreturn, 1) := by decide +kernel
theorem dJ6_bitCount_0f7a4_0 : decode cJ6_bitCount_0f7a4 0 = .ok (.iload_n 0, 1) := by decide +kernel
theorem dJ6_bitCount_0f7a4_1 : decode cJ6_bitCount_0f7a4 1 = .ok (.iload_n 0, 1) := by decide +kernel
theorem dJ6_bitCount_0f7a4_2 : decode cJ6_bitCount_0f7a4 2 = .ok (.iconst 1, 1) := by decide +kernel
theorem dJ6_bitCount_0f7a4_3 : decode cJ6_bitCount_0f7a4 3 = .ok (.iushr, 1) := by decide +kernel
theorem dJ6_bitCount_0f7a4_4 : decode cJ6_bitCount_0f7a4 4 = .ok (.ldc_w 265, 3) := by decide +kernel
theorem dJ6_bitCount_0f7a4_7 : decode cJ6_bitCount_0f7a4 7 = .ok (.iand, 1) := by decide +kernel
theorem dJ6_bitCount_0f7a4_8 : decode cJ6_bitCount_0f7a4 8 = .ok (.isub, 1) := by decide +kernel
theorem dJ6_bitCount_0f7a4_9 : decode cJ6_bitCount_0f7a4 9 = .ok (.istore_n 0, 1) := by decide +kernel
theorem dJ6_bitCount_0f7a4_10 : decode cJ6_bitCount_0f7a4 10 = .ok (.iload_n 0, 1) := by decide +kernel
theorem dJ6_bitCount_0f7a4_11 : decode cJ6_bitCount_0f7a4 11 = .ok (.ldc_w 266, 3) := by decide +kernel
theorem dJ6_bitCount_0f7a4_14 : decode cJ6_bitCount_0f7a4 14 = .ok (.iand, 1) := by decide +kernel
theorem dJ6_bitCount_0f7a4_15 : decode cJ6_bitCount_0f7a4 15 = .ok (.iload_n 0, 1) := by decide +kernel
theorem dJ6_bitCount_0f7a4_16 : decode cJ6_bitCount_0f7a4 16 = .ok (.iconst 2, 1) := by decide +kernel
theorem dJ6_bitCount_0f7a4_17 : decode cJ6_bitCount_0f7a4 17 = .ok (.iushr, 1) := by decide +kernel
theorem dJ6_bitCount_0f7a4_18 : decode cJ6_bitCount_0f7a4 18 = .ok (.ldc_w 266, 3) := by decide +kernel
theorem dJ6_bitCount_0f7a4_21 : decode cJ6_bitCount_0f7a4 21 = .ok (.iand, 1) := by decide +kernel
theorem dJ6_bitCount_0f7a4_22 : decode cJ6_bitCount_0f7a4 22 = .ok (.iadd, 1) := by decide +kernel
theorem dJ6_bitCount_0f7a4_23 : decode cJ6_bitCount_0f7a4 23 = .ok (.istore_n 0, 1) := by decide +kernel
theorem dJ6_bitCount_0f7a4_24 : decode cJ6_bitCount_0f7a4 24 = .ok (.iload_n 0, 1) := by decide +kernel
theorem dJ6_bitCount_0f7a4_25 : decode cJ6_bitCount_0f7a4 25 = .ok (.iload_n 0, 1) := by decide +kernel
theorem dJ6_bitCount_0f7a4_26 : decode cJ6_bitCount_0f7a4 26 = .ok (.iconst 4, 1) := by decide +kernel
theorem dJ6_bitCount_0f7a4_27 : decode cJ6_bitCount_0f7a4 27 = .ok (.iushr, 1) := by decide +kernel
theorem dJ6_bitCount_0f7a4_28 : decode cJ6_bitCount_0f7a4 28 = .ok (.iadd, 1) := by decide +kernel
theorem dJ6_bitCount_0f7a4_29 : decode cJ6_bitCount_0f7a4 29 = .ok (.ldc_w 267, 3) := by decide +kernel
theorem dJ6_bitCount_0f7a4_32 : decode cJ6_bitCount_0f7a4 32 = .ok (.iand, 1) := by decide +kernel
theorem dJ6_bitCount_0f7a4_33 : decode cJ6_bitCount_0f7a4 33 = .ok (.istore_n 0, 1) := by decide +kernel
theorem dJ6_bitCount_0f7a4_34 : decode cJ6_bitCount_0f7a4 34 = .ok (.iload_n 0, 1) := by decide +kernel
theorem dJ6_bitCount_0f7a4_35 : decode cJ6_bitCount_0f7a4 35 = .ok (.iload_n 0, 1) := by decide +kernel
theorem dJ6_bitCount_0f7a4_36 : decode cJ6_bitCount_0f7a4 36 = .ok (.bipush 8, 2) := by decide +kernel
theorem dJ6_bitCount_0f7a4_38 : decode cJ6_bitCount_0f7a4 38 = .ok (.iushr, 1) := by decide +kernel
theorem dJ6_bitCount_0f7a4_39 : decode cJ6_bitCount_0f7a4 39 = .ok (.iadd, 1) := by decide +kernel
theorem dJ6_bitCount_0f7a4_40 : decode cJ6_bitCount_0f7a4 40 = .ok (.istore_n 0, 1) := by decide +kernel
theorem dJ6_bitCount_0f7a4_41 : decode cJ6_bitCount_0f7a4 41 = .ok (.iload_n 0, 1) := by decide +kernel
theorem dJ6_bitCount_0f7a4_42 : decode cJ6_bitCount_0f7a4 42 = .ok (.iload_n 0, 1) := by decide +kernel
theorem dJ6_bitCount_0f7a4_43 : decode cJ6_bitCount_0f7a4 43 = .ok (.bipush 16, 2) := by decide +kernel
theorem dJ6_bitCount_0f7a4_45 : decode cJ6_bitCount_0f7a4 45 = .ok (.iushr, 1) := by decide +kernel
theorem dJ6_bitCount_0f7a4_46 : decode cJ6_bitCount_0f7a4 46 = .ok (.iadd, 1) := by decide +kernel
theorem dJ6_bitCount_0f7a4_47 : decode cJ6_bitCount_0f7a4 47 = .ok (.istore_n 0, 1) := by decide +kernel
theorem dJ6_bitCount_0f7a4_48 : decode cJ6_bitCount_0f7a4 48 = .ok (.iload_n 0, 1) := by decide +kernel
theorem dJ6_bitCount_0f7a4_49 : decode cJ6_bitCount_0f7a4 49 = .ok (.bipush 63, 2) := by decide +kernel
theorem dJ6_bitCount_0f7a4_51 : decode cJ6_bitCount_0f7a4 51 = .ok (.iand, 1) := by decide +kernel
theorem dJ6_bitCount_0f7a4_52 : decode cJ6_bitCount_0f7a4 52 = .ok (.ireturn, 1) := by decide +kernel
theorem dJ9_abs_0f7a4_0 : decode cJ9_abs_0f7a4 0 = .ok (.iload_n 0, 1) := by decide +kernel
theorem dJ9_abs_0f7a4_1 : decode cJ9_abs_0f7a4 1 = .ok (.ifCond .ge 8, 3) := by decide +kernel
theorem dJ9_abs_0f7a4_4 : decode cJ9_abs_0f7a4 4 = .ok (.iload_n 0, 1) := by decide +kernel
theorem dJ9_abs_0f7a4_5 : decode cJ9_abs_0f7a4 5 = .ok (.ineg, 1) := by decide +kernel
theorem dJ9_abs_0f7a4_6 : decode cJ9_abs_0f7a4 6 = .ok (.goto 4, 3) := by decide +kernel
theorem dJ9_abs_0f7a4_9 : decode cJ9_abs_0f7a4 9 = .ok (.iload_n 0, 1) := by decide +kernel
theorem dJ9_abs_0f7a4_10 : decode cJ9_abs_0f7a4 10 = .ok (.ireturn, 1) := by decide +kernel
theorem dJ9_min_7cf53_0 : decode cJ9_min_7cf53 0 = .ok (.iload_n 0, 1) := by decide +kernel
theorem dJ9_min_7cf53_1 : decode cJ9_min_7cf53 1 = .ok (.iload_n 1, 1) := by decide +kernel
theorem dJ9_min_7cf53_2 : decode cJ9_min_7cf53 2 = .ok (.if_icmp .gt 7, 3) := by decide +kernel
theorem dJ9_min_7cf53_5 : decode cJ9_min_7cf53 5 = .ok (.iload_n 0, 1) := by decide +kernel
theorem dJ9_min_7cf53_6 : decode cJ9_min_7cf53 6 = .ok (.goto 4, 3) := by decide +kernel
theorem dJ9_min_7cf53_9 : decode cJ9_min_7cf53 9 = .ok (.iload_n 1, 1) := by decide +kernel
theorem dJ9_min_7cf53_10 : decode cJ9_min_7cf53 10 = .ok (.ireturn, 1) := by decide +kernel
theorem dJ7_fill_53178_0 : decode cJ7_fill_53178 0 = .ok (.iconst 0, 1) := by decide +kernel
theorem dJ7_fill_53178_1 : decode cJ7_fill_53178 1 = .ok (.istore_n 2, 1) := by decide +kernel
theorem dJ7_fill_53178_2 : decode cJ7_fill_53178 2 = .ok (.aload_n 0, 1) := by decide +kernel
theorem dJ7_fill_53178_3 : decode cJ7_fill_53178 3 = .ok (.arraylength, 1) := by decide +kernel
theorem dJ7_fill_53178_4 : decode cJ7_fill_53178 4 = .ok (.istore_n 3, 1) := by decide +kernel
theorem dJ7_fill_53178_5 : decode cJ7_fill_53178 5 = .ok (.iload_n 2, 1) := by decide +kernel
theorem dJ7_fill_53178_6 : decode cJ7_fill_53178 6 = .ok (.iload_n 3, 1) := by decide +kernel
theorem dJ7_fill_53178_7 : decode cJ7_fill_53178 7 = .ok (.if_icmp .ge 13, 3) := by decide +kernel
theorem dJ7_fill_53178_10 : decode cJ7_fill_53178 10 = .ok (.aload_n 0, 1) := by decide +kernel
theorem dJ7_fill_53178_11 : decode cJ7_fill_53178 11 = .ok (.iload_n 2, 1) := by decide +kernel
theorem dJ7_fill_53178_12 : decode cJ7_fill_53178 12 = .ok (.iload_n 1, 1) := by decide +kernel
theorem dJ7_fill_53178_13 : decode cJ7_fill_53178 13 = .ok (.iastore, 1) := by decide +kernel
theorem dJ7_fill_53178_14 : decode cJ7_fill_53178 14 = .ok (.iinc 2 1, 3) := by decide +kernel
theorem dJ7_fill_53178_17 : decode cJ7_fill_53178 17 = .ok (.goto (-12), 3) := by decide +kernel
theorem dJ7_fill_53178_20 : decode cJ7_fill_53178 20 = .ok (.return_, 1) := by decide +kernel
theorem dL_law_0 : decode cL_law 0 = .ok (.new 7, 3) := by decide +kernel
theorem dL_law_3 : decode cL_law 3 = .ok (.dup, 1) := by decide +kernel
theorem dL_law_4 : decode cL_law 4 = .ok (.invokespecial 9, 3) := by decide +kernel
theorem dL_law_7 : decode cL_law 7 = .ok (.astore_n 1, 1) := by decide +kernel
theorem dL_law_8 : decode cL_law 8 = .ok (.new 10, 3) := by decide +kernel
theorem dL_law_11 : decode cL_law 11 = .ok (.dup, 1) := by decide +kernel
theorem dL_law_12 : decode cL_law 12 = .ok (.invokespecial 12, 3) := by decide +kernel
theorem dL_law_15 : decode cL_law 15 = .ok (.astore_n 2, 1) := by decide +kernel
theorem dL_law_16 : decode cL_law 16 = .ok (.iconst 0, 1) := by decide +kernel
theorem dL_law_17 : decode cL_law 17 = .ok (.istore_n 3, 1) := by decide +kernel
theorem dL_law_18 : decode cL_law 18 = .ok (.iload_n 3, 1) := by decide +kernel
theorem dL_law_19 : decode cL_law 19 = .ok (.aload_n 0, 1) := by decide +kernel
theorem dL_law_20 : decode cL_law 20 = .ok (.arraylength, 1) := by decide +kernel
theorem dL_law_21 : decode cL_law 21 = .ok (.iconst 5, 1) := by decide +kernel
theorem dL_law_22 : decode cL_law 22 = .ok (.isub, 1) := by decide +kernel
theorem dL_law_23 : decode cL_law 23 = .ok (.if_icmp .gt 871, 3) := by decide +kernel
theorem dL_law_26 : decode cL_law 26 = .ok (.aload_n 0, 1) := by decide +kernel
theorem dL_law_27 : decode cL_law 27 = .ok (.iload_n 3, 1) := by decide +kernel
theorem dL_law_28 : decode cL_law 28 = .ok (.iaload, 1) := by decide +kernel
theorem dL_law_29 : decode cL_law 29 = .ok (.bipush 31, 2) := by decide +kernel
theorem dL_law_31 : decode cL_law 31 = .ok (.iand, 1) := by decide +kernel
theorem dL_law_32 : decode cL_law 32 = .ok (.tableswitch 856 0 26 #[124, 157, 170, 213, 256, 299, 332, 355, 378, 391, 424, 447, 490, 523, 566, 619, 652, 675, 688, 701, 734, 757, 780, 793, 806, 819, 842], 124) := by decide +kernel
theorem dL_law_156 : decode cL_law 156 = .ok (.aload_n 1, 1) := by decide +kernel
theorem dL_law_157 : decode cL_law 157 = .ok (.aload_n 0, 1) := by decide +kernel
theorem dL_law_158 : decode cL_law 158 = .ok (.iload_n 3, 1) := by decide +kernel
theorem dL_law_159 : decode cL_law 159 = .ok (.iconst 1, 1) := by decide +kernel
theorem dL_law_160 : decode cL_law 160 = .ok (.iadd, 1) := by decide +kernel
theorem dL_law_161 : decode cL_law 161 = .ok (.iaload, 1) := by decide +kernel
theorem dL_law_162 : decode cL_law 162 = .ok (.aload_n 0, 1) := by decide +kernel
theorem dL_law_163 : decode cL_law 163 = .ok (.iload_n 3, 1) := by decide +kernel
theorem dL_law_164 : decode cL_law 164 = .ok (.iconst 2, 1) := by decide +kernel
theorem dL_law_165 : decode cL_law 165 = .ok (.iadd, 1) := by decide +kernel
theorem dL_law_166 : decode cL_law 166 = .ok (.iaload, 1) := by decide +kernel
theorem dL_law_167 : decode cL_law 167 = .ok (.invokevirtual 13, 3) := by decide +kernel
theorem dL_law_170 : decode cL_law 170 = .ok (.aload_n 2, 1) := by decide +kernel
theorem dL_law_171 : decode cL_law 171 = .ok (.aload_n 0, 1) := by decide +kernel
theorem dL_law_172 : decode cL_law 172 = .ok (.iload_n 3, 1) := by decide +kernel
theorem dL_law_173 : decode cL_law 173 = .ok (.iconst 1, 1) := by decide +kernel
theorem dL_law_174 : decode cL_law 174 = .ok (.iadd, 1) := by decide +kernel
theorem dL_law_175 : decode cL_law 175 = .ok (.iaload, 1) := by decide +kernel
theorem dL_law_176 : decode cL_law 176 = .ok (.aload_n 0, 1) := by decide +kernel
theorem dL_law_177 : decode cL_law 177 = .ok (.iload_n 3, 1) := by decide +kernel
theorem dL_law_178 : decode cL_law 178 = .ok (.iconst 2, 1) := by decide +kernel
theorem dL_law_179 : decode cL_law 179 = .ok (.iadd, 1) := by decide +kernel
theorem dL_law_180 : decode cL_law 180 = .ok (.iaload, 1) := by decide +kernel
theorem dL_law_181 : decode cL_law 181 = .ok (.invokevirtual 17, 3) := by decide +kernel
theorem dL_law_184 : decode cL_law 184 = .ok (.if_icmp .eq 704, 3) := by decide +kernel
theorem dL_law_187 : decode cL_law 187 = .ok (.iconst 0, 1) := by decide +kernel
theorem dL_law_188 : decode cL_law 188 = .ok (.ireturn, 1) := by decide +kernel
theorem dL_law_189 : decode cL_law 189 = .ok (.aload_n 1, 1) := by decide +kernel
theorem dL_law_190 : decode cL_law 190 = .ok (.invokevirtual 18, 3) := by decide +kernel
theorem dL_law_193 : decode cL_law 193 = .ok (.aload_n 2, 1) := by decide +kernel
theorem dL_law_194 : decode cL_law 194 = .ok (.invokevirtual 22, 3) := by decide +kernel
theorem dL_law_197 : decode cL_law 197 = .ok (.if_icmp .eq 691, 3) := by decide +kernel
theorem dL_law_200 : decode cL_law 200 = .ok (.iconst 0, 1) := by decide +kernel
theorem dL_law_201 : decode cL_law 201 = .ok (.ireturn, 1) := by decide +kernel
theorem dL_law_202 : decode cL_law 202 = .ok (.aload_n 1, 1) := by decide +kernel
theorem dL_law_203 : decode cL_law 203 = .ok (.aload_n 0, 1) := by decide +kernel
theorem dL_law_204 : decode cL_law 204 = .ok (.iload_n 3, 1) := by decide +kernel
theorem dL_law_205 : decode cL_law 205 = .ok (.iconst 1, 1) := by decide +kernel
theorem dL_law_206 : decode cL_law 206 = .ok (.iadd, 1) := by decide +kernel
theorem dL_law_207 : decode cL_law 207 = .ok (.iaload, 1) := by decide +kernel
theorem dL_law_208 : decode cL_law 208 = .ok (.aload_n 0, 1) := by decide +kernel
theorem dL_law_209 : decode cL_law 209 = .ok (.iload_n 3, 1) := by decide +kernel
theorem dL_law_210 : decode cL_law 210 = .ok (.iconst 2, 1) := by decide +kernel
theorem dL_law_211 : decode cL_law 211 = .ok (.iadd, 1) := by decide +kernel
theorem dL_law_212 : decode cL_law 212 = .ok (.iaload, 1) := by decide +kernel
theorem dL_law_213 : decode cL_law 213 = .ok (.aload_n 0, 1) := by decide +kernel
theorem dL_law_214 : decode cL_law 214 = .ok (.iload_n 3, 1) := by decide +kernel
theorem dL_law_215 : decode cL_law 215 = .ok (.iconst 3, 1) := by decide +kernel
theorem dL_law_216 : decode cL_law 216 = .ok (.iadd, 1) := by decide +kernel
theorem dL_law_217 : decode cL_law 217 = .ok (.iaload, 1) := by decide +kernel
theorem dL_law_218 : decode cL_law 218 = .ok (.invokevirtual 23, 3) := by decide +kernel
theorem dL_law_221 : decode cL_law 221 = .ok (.aload_n 2, 1) := by decide +kernel
theorem dL_law_222 : decode cL_law 222 = .ok (.aload_n 0, 1) := by decide +kernel
theorem dL_law_223 : decode cL_law 223 = .ok (.iload_n 3, 1) := by decide +kernel
theorem dL_law_224 : decode cL_law 224 = .ok (.iconst 1, 1) := by decide +kernel
theorem dL_law_225 : decode cL_law 225 = .ok (.iadd, 1) := by decide +kernel
theorem dL_law_226 : decode cL_law 226 = .ok (.iaload, 1) := by decide +kernel
theorem dL_law_227 : decode cL_law 227 = .ok (.aload_n 0, 1) := by decide +kernel
theorem dL_law_228 : decode cL_law 228 = .ok (.iload_n 3, 1) := by decide +kernel
theorem dL_law_229 : decode cL_law 229 = .ok (.iconst 2, 1) := by decide +kernel
theorem dL_law_230 : decode cL_law 230 = .ok (.iadd, 1) := by decide +kernel
theorem dL_law_231 : decode cL_law 231 = .ok (.iaload, 1) := by decide +kernel
theorem dL_law_232 : decode cL_law 232 = .ok (.aload_n 0, 1) := by decide +kernel
theorem dL_law_233 : decode cL_law 233 = .ok (.iload_n 3, 1) := by decide +kernel
theorem dL_law_234 : decode cL_law 234 = .ok (.iconst 3, 1) := by decide +kernel
theorem dL_law_235 : decode cL_law 235 = .ok (.iadd, 1) := by decide +kernel
theorem dL_law_236 : decode cL_law 236 = .ok (.iaload, 1) := by decide +kernel
theorem dL_law_237 : decode cL_law 237 = .ok (.invokevirtual 27, 3) := by decide +kernel
theorem dL_law_240 : decode cL_law 240 = .ok (.if_icmp .eq 648, 3) := by decide +kernel
theorem dL_law_243 : decode cL_law 243 = .ok (.iconst 0, 1) := by decide +kernel
theorem dL_law_244 : decode cL_law 244 = .ok (.ireturn, 1) := by decide +kernel
theorem dL_law_245 : decode cL_law 245 = .ok (.aload_n 1, 1) := by decide +kernel
theorem dL_law_246 : decode cL_law 246 = .ok (.aload_n 0, 1) := by decide +kernel
theorem dL_law_247 : decode cL_law 247 = .ok (.iload_n 3, 1) := by decide +kernel
theorem dL_law_248 : decode cL_law 248 = .ok (.iconst 1, 1) := by decide +kernel
theorem dL_law_249 : decode cL_law 249 = .ok (.iadd, 1) := by decide +kernel
theorem dL_law_250 : decode cL_law 250 = .ok (.iaload, 1) := by decide +kernel
theorem dL_law_251 : decode cL_law 251 = .ok (.aload_n 0, 1) := by decide +kernel
theorem dL_law_252 : decode cL_law 252 = .ok (.iload_n 3, 1) := by decide +kernel
theorem dL_law_253 : decode cL_law 253 = .ok (.iconst 2, 1) := by decide +kernel
theorem dL_law_254 : decode cL_law 254 = .ok (.iadd, 1) := by decide +kernel
theorem dL_law_255 : decode cL_law 255 = .ok (.iaload, 1) := by decide +kernel
theorem dL_law_256 : decode cL_law 256 = .ok (.aload_n 0, 1) := by decide +kernel
theorem dL_law_257 : decode cL_law 257 = .ok (.iload_n 3, 1) := by decide +kernel
theorem dL_law_258 : decode cL_law 258 = .ok (.iconst 3, 1) := by decide +kernel
theorem dL_law_259 : decode cL_law 259 = .ok (.iadd, 1) := by decide +kernel
theorem dL_law_260 : decode cL_law 260 = .ok (.iaload, 1) := by decide +kernel
theorem dL_law_261 : decode cL_law 261 = .ok (.invokevirtual 28, 3) := by decide +kernel
theorem dL_law_264 : decode cL_law 264 = .ok (.aload_n 2, 1) := by decide +kernel
theorem dL_law_265 : decode cL_law 265 = .ok (.aload_n 0, 1) := by decide +kernel
theorem dL_law_266 : decode cL_law 266 = .ok (.iload_n 3, 1) := by decide +kernel
theorem dL_law_267 : decode cL_law 267 = .ok (.iconst 1, 1) := by decide +kernel
theorem dL_law_268 : decode cL_law 268 = .ok (.iadd, 1) := by decide +kernel
theorem dL_law_269 : decode cL_law 269 = .ok (.iaload, 1) := by decide +kernel
theorem dL_law_270 : decode cL_law 270 = .ok (.aload_n 0, 1) := by decide +kernel
theorem dL_law_271 : decode cL_law 271 = .ok (.iload_n 3, 1) := by decide +kernel
theorem dL_law_272 : decode cL_law 272 = .ok (.iconst 2, 1) := by decide +kernel
theorem dL_law_273 : decode cL_law 273 = .ok (.iadd, 1) := by decide +kernel
theorem dL_law_274 : decode cL_law 274 = .ok (.iaload, 1) := by decide +kernel
theorem dL_law_275 : decode cL_law 275 = .ok (.aload_n 0, 1) := by decide +kernel
theorem dL_law_276 : decode cL_law 276 = .ok (.iload_n 3, 1) := by decide +kernel
theorem dL_law_277 : decode cL_law 277 = .ok (.iconst 3, 1) := by decide +kernel
theorem dL_law_278 : decode cL_law 278 = .ok (.iadd, 1) := by decide +kernel
theorem dL_law_279 : decode cL_law 279 = .ok (.iaload, 1) := by decide +kernel
theorem dL_law_280 : decode cL_law 280 = .ok (.invokevirtual 31, 3) := by decide +kernel
theorem dL_law_283 : decode cL_law 283 = .ok (.if_icmp .eq 605, 3) := by decide +kernel
theorem dL_law_286 : decode cL_law 286 = .ok (.iconst 0, 1) := by decide +kernel
theorem dL_law_287 : decode cL_law 287 = .ok (.ireturn, 1) := by decide +kernel
theorem dL_law_288 : decode cL_law 288 = .ok (.aload_n 1, 1) := by decide +kernel
theorem dL_law_289 : decode cL_law 289 = .ok (.aload_n 0, 1) := by decide +kernel
theorem dL_law_290 : decode cL_law 290 = .ok (.iload_n 3, 1) := by decide +kernel
theorem dL_law_291 : decode cL_law 291 = .ok (.iconst 1, 1) := by decide +kernel
theorem dL_law_292 : decode cL_law 292 = .ok (.iadd, 1) := by decide +kernel
theorem dL_law_293 : decode cL_law 293 = .ok (.iaload, 1) := by decide +kernel
theorem dL_law_294 : decode cL_law 294 = .ok (.aload_n 0, 1) := by decide +kernel
theorem dL_law_295 : decode cL_law 295 = .ok (.iload_n 3, 1) := by decide +kernel
theorem dL_law_296 : decode cL_law 296 = .ok (.iconst 2, 1) := by decide +kernel
theorem dL_law_297 : decode cL_law 297 = .ok (.iadd, 1) := by decide +kernel
theorem dL_law_298 : decode cL_law 298 = .ok (.iaload, 1) := by decide +kernel
theorem dL_law_299 : decode cL_law 299 = .ok (.aload_n 0, 1) := by decide +kernel
theorem dL_law_300 : decode cL_law 300 = .ok (.iload_n 3, 1) := by decide +kernel
theorem dL_law_301 : decode cL_law 301 = .ok (.iconst 3, 1) := by decide +kernel
theorem dL_law_302 : decode cL_law 302 = .ok (.iadd, 1) := by decide +kernel
theorem dL_law_303 : decode cL_law 303 = .ok (.iaload, 1) := by decide +kernel
theorem dL_law_304 : decode cL_law 304 = .ok (.invokevirtual 32, 3) := by decide +kernel
theorem dL_law_307 : decode cL_law 307 = .ok (.aload_n 2, 1) := by decide +kernel
theorem dL_law_308 : decode cL_law 308 = .ok (.aload_n 0, 1) := by decide +kernel
theorem dL_law_309 : decode cL_law 309 = .ok (.iload_n 3, 1) := by decide +kernel
theorem dL_law_310 : decode cL_law 310 = .ok (.iconst 1, 1) := by decide +kernel
theorem dL_law_311 : decode cL_law 311 = .ok (.iadd, 1) := by decide +kernel
theorem dL_law_312 : decode cL_law 312 = .ok (.iaload, 1) := by decide +kernel
theorem dL_law_313 : decode cL_law 313 = .ok (.aload_n 0, 1) := by decide +kernel
theorem dL_law_314 : decode cL_law 314 = .ok (.iload_n 3, 1) := by decide +kernel
theorem dL_law_315 : decode cL_law 315 = .ok (.iconst 2, 1) := by decide +kernel
theorem dL_law_316 : decode cL_law 316 = .ok (.iadd, 1) := by decide +kernel
theorem dL_law_317 : decode cL_law 317 = .ok (.iaload, 1) := by decide +kernel
theorem dL_law_318 : decode cL_law 318 = .ok (.aload_n 0, 1) := by decide +kernel
theorem dL_law_319 : decode cL_law 319 = .ok (.iload_n 3, 1) := by decide +kernel
theorem dL_law_320 : decode cL_law 320 = .ok (.iconst 3, 1) := by decide +kernel
theorem dL_law_321 : decode cL_law 321 = .ok (.iadd, 1) := by decide +kernel
theorem dL_law_322 : decode cL_law 322 = .ok (.iaload, 1) := by decide +kernel
theorem dL_law_323 : decode cL_law 323 = .ok (.invokevirtual 35, 3) := by decide +kernel
theorem dL_law_326 : decode cL_law 326 = .ok (.if_icmp .eq 562, 3) := by decide +kernel
theorem dL_law_329 : decode cL_law 329 = .ok (.iconst 0, 1) := by decide +kernel
theorem dL_law_330 : decode cL_law 330 = .ok (.ireturn, 1) := by decide +kernel
theorem dL_law_331 : decode cL_law 331 = .ok (.aload_n 1, 1) := by decide +kernel
theorem dL_law_332 : decode cL_law 332 = .ok (.aload_n 0, 1) := by decide +kernel
theorem dL_law_333 : decode cL_law 333 = .ok (.iload_n 3, 1) := by decide +kernel
theorem dL_law_334 : decode cL_law 334 = .ok (.iconst 1, 1) := by decide +kernel
theorem dL_law_335 : decode cL_law 335 = .ok (.iadd, 1) := by decide +kernel
theorem dL_law_336 : decode cL_law 336 = .ok (.iaload, 1) := by decide +kernel
theorem dL_law_337 : decode cL_law 337 = .ok (.aload_n 0, 1) := by decide +kernel
theorem dL_law_338 : decode cL_law 338 = .ok (.iload_n 3, 1) := by decide +kernel
theorem dL_law_339 : decode cL_law 339 = .ok (.iconst 2, 1) := by decide +kernel
theorem dL_law_340 : decode cL_law 340 = .ok (.iadd, 1) := by decide +kernel
theorem dL_law_341 : decode cL_law 341 = .ok (.iaload, 1) := by decide +kernel
theorem dL_law_342 : decode cL_law 342 = .ok (.invokevirtual 36, 3) := by decide +kernel
theorem dL_law_345 : decode cL_law 345 = .ok (.aload_n 2, 1) := by decide +kernel
theorem dL_law_346 : decode cL_law 346 = .ok (.aload_n 0, 1) := by decide +kernel
theorem dL_law_347 : decode cL_law 347 = .ok (.iload_n 3, 1) := by decide +kernel
theorem dL_law_348 : decode cL_law 348 = .ok (.iconst 1, 1) := by decide +kernel
theorem dL_law_349 : decode cL_law 349 = .ok (.iadd, 1) := by decide +kernel
theorem dL_law_350 : decode cL_law 350 = .ok (.iaload, 1) := by decide +kernel
theorem dL_law_351 : decode cL_law 351 = .ok (.aload_n 0, 1) := by decide +kernel
theorem dL_law_352 : decode cL_law 352 = .ok (.iload_n 3, 1) := by decide +kernel
theorem dL_law_353 : decode cL_law 353 = .ok (.iconst 2, 1) := by decide +kernel
theorem dL_law_354 : decode cL_law 354 = .ok (.iadd, 1) := by decide +kernel
theorem dL_law_355 : decode cL_law 355 = .ok (.iaload, 1) := by decide +kernel
theorem dL_law_356 : decode cL_law 356 = .ok (.invokevirtual 39, 3) := by decide +kernel
theorem dL_law_359 : decode cL_law 359 = .ok (.if_icmp .eq 529, 3) := by decide +kernel
theorem dL_law_362 : decode cL_law 362 = .ok (.iconst 0, 1) := by decide +kernel
theorem dL_law_363 : decode cL_law 363 = .ok (.ireturn, 1) := by decide +kernel
theorem dL_law_364 : decode cL_law 364 = .ok (.aload_n 1, 1) := by decide +kernel
theorem dL_law_365 : decode cL_law 365 = .ok (.aload_n 0, 1) := by decide +kernel
theorem dL_law_366 : decode cL_law 366 = .ok (.iload_n 3, 1) := by decide +kernel
theorem dL_law_367 : decode cL_law 367 = .ok (.iconst 1, 1) := by decide +kernel
theorem dL_law_368 : decode cL_law 368 = .ok (.iadd, 1) := by decide +kernel
theorem dL_law_369 : decode cL_law 369 = .ok (.iaload, 1) := by decide +kernel
theorem dL_law_370 : decode cL_law 370 = .ok (.invokevirtual 40, 3) := by decide +kernel
theorem dL_law_373 : decode cL_law 373 = .ok (.aload_n 2, 1) := by decide +kernel
theorem dL_law_374 : decode cL_law 374 = .ok (.aload_n 0, 1) := by decide +kernel
theorem dL_law_375 : decode cL_law 375 = .ok (.iload_n 3, 1) := by decide +kernel
theorem dL_law_376 : decode cL_law 376 = .ok (.iconst 1, 1) := by decide +kernel
theorem dL_law_377 : decode cL_law 377 = .ok (.iadd, 1) := by decide +kernel
theorem dL_law_378 : decode cL_law 378 = .ok (.iaload, 1) := by decide +kernel
theorem dL_law_379 : decode cL_law 379 = .ok (.invokevirtual 44, 3) := by decide +kernel
theorem dL_law_382 : decode cL_law 382 = .ok (.if_icmp .eq 506, 3) := by decide +kernel
theorem dL_law_385 : decode cL_law 385 = .ok (.iconst 0, 1) := by decide +kernel
theorem dL_law_386 : decode cL_law 386 = .ok (.ireturn, 1) := by decide +kernel
theorem dL_law_387 : decode cL_law 387 = .ok (.aload_n 1, 1) := by decide +kernel
theorem dL_law_388 : decode cL_law 388 = .ok (.aload_n 0, 1) := by decide +kernel
theorem dL_law_389 : decode cL_law 389 = .ok (.iload_n 3, 1) := by decide +kernel
theorem dL_law_390 : decode cL_law 390 = .ok (.iconst 1, 1) := by decide +kernel
theorem dL_law_391 : decode cL_law 391 = .ok (.iadd, 1) := by decide +kernel
theorem dL_law_392 : decode cL_law 392 = .ok (.iaload, 1) := by decide +kernel
theorem dL_law_393 : decode cL_law 393 = .ok (.invokevirtual 45, 3) := by decide +kernel
theorem dL_law_396 : decode cL_law 396 = .ok (.aload_n 2, 1) := by decide +kernel
theorem dL_law_397 : decode cL_law 397 = .ok (.aload_n 0, 1) := by decide +kernel
theorem dL_law_398 : decode cL_law 398 = .ok (.iload_n 3, 1) := by decide +kernel
theorem dL_law_399 : decode cL_law 399 = .ok (.iconst 1, 1) := by decide +kernel
theorem dL_law_400 : decode cL_law 400 = .ok (.iadd, 1) := by decide +kernel
theorem dL_law_401 : decode cL_law 401 = .ok (.iaload, 1) := by decide +kernel
theorem dL_law_402 : decode cL_law 402 = .ok (.invokevirtual 48, 3) := by decide +kernel
theorem dL_law_405 : decode cL_law 405 = .ok (.if_icmp .eq 483, 3) := by decide +kernel
theorem dL_law_408 : decode cL_law 408 = .ok (.iconst 0, 1) := by decide +kernel
theorem dL_law_409 : decode cL_law 409 = .ok (.ireturn, 1) := by decide +kernel
theorem dL_law_410 : decode cL_law 410 = .ok (.aload_n 1, 1) := by decide +kernel
theorem dL_law_411 : decode cL_law 411 = .ok (.invokevirtual 49, 3) := by decide +kernel
theorem dL_law_414 : decode cL_law 414 = .ok (.aload_n 2, 1) := by decide +kernel
theorem dL_law_415 : decode cL_law 415 = .ok (.invokevirtual 52, 3) := by decide +kernel
theorem dL_law_418 : decode cL_law 418 = .ok (.if_icmp .eq 470, 3) := by decide +kernel
theorem dL_law_421 : decode cL_law 421 = .ok (.iconst 0, 1) := by decide +kernel
theorem dL_law_422 : decode cL_law 422 = .ok (.ireturn, 1) := by decide +kernel
theorem dL_law_423 : decode cL_law 423 = .ok (.aload_n 1, 1) := by decide +kernel
theorem dL_law_424 : decode cL_law 424 = .ok (.aload_n 0, 1) := by decide +kernel
theorem dL_law_425 : decode cL_law 425 = .ok (.iload_n 3, 1) := by decide +kernel
theorem dL_law_426 : decode cL_law 426 = .ok (.iconst 1, 1) := by decide +kernel
theorem dL_law_427 : decode cL_law 427 = .ok (.iadd, 1) := by decide +kernel
theorem dL_law_428 : decode cL_law 428 = .ok (.iaload, 1) := by decide +kernel
theorem dL_law_429 : decode cL_law 429 = .ok (.aload_n 0, 1) := by decide +kernel
theorem dL_law_430 : decode cL_law 430 = .ok (.iload_n 3, 1) := by decide +kernel
theorem dL_law_431 : decode cL_law 431 = .ok (.iconst 2, 1) := by decide +kernel
theorem dL_law_432 : decode cL_law 432 = .ok (.iadd, 1) := by decide +kernel
theorem dL_law_433 : decode cL_law 433 = .ok (.iaload, 1) := by decide +kernel
theorem dL_law_434 : decode cL_law 434 = .ok (.invokevirtual 53, 3) := by decide +kernel
theorem dL_law_437 : decode cL_law 437 = .ok (.aload_n 2, 1) := by decide +kernel
theorem dL_law_438 : decode cL_law 438 = .ok (.aload_n 0, 1) := by decide +kernel
theorem dL_law_439 : decode cL_law 439 = .ok (.iload_n 3, 1) := by decide +kernel
theorem dL_law_440 : decode cL_law 440 = .ok (.iconst 1, 1) := by decide +kernel
theorem dL_law_441 : decode cL_law 441 = .ok (.iadd, 1) := by decide +kernel
theorem dL_law_442 : decode cL_law 442 = .ok (.iaload, 1) := by decide +kernel
theorem dL_law_443 : decode cL_law 443 = .ok (.aload_n 0, 1) := by decide +kernel
theorem dL_law_444 : decode cL_law 444 = .ok (.iload_n 3, 1) := by decide +kernel
theorem dL_law_445 : decode cL_law 445 = .ok (.iconst 2, 1) := by decide +kernel
theorem dL_law_446 : decode cL_law 446 = .ok (.iadd, 1) := by decide +kernel
theorem dL_law_447 : decode cL_law 447 = .ok (.iaload, 1) := by decide +kernel
theorem dL_law_448 : decode cL_law 448 = .ok (.invokevirtual 56, 3) := by decide +kernel
theorem dL_law_451 : decode cL_law 451 = .ok (.if_icmp .eq 437, 3) := by decide +kernel
theorem dL_law_454 : decode cL_law 454 = .ok (.iconst 0, 1) := by decide +kernel
theorem dL_law_455 : decode cL_law 455 = .ok (.ireturn, 1) := by decide +kernel
theorem dL_law_456 : decode cL_law 456 = .ok (.aload_n 1, 1) := by decide +kernel
theorem dL_law_457 : decode cL_law 457 = .ok (.aload_n 0, 1) := by decide +kernel
theorem dL_law_458 : decode cL_law 458 = .ok (.iload_n 3, 1) := by decide +kernel
theorem dL_law_459 : decode cL_law 459 = .ok (.iconst 1, 1) := by decide +kernel
theorem dL_law_460 : decode cL_law 460 = .ok (.iadd, 1) := by decide +kernel
theorem dL_law_461 : decode cL_law 461 = .ok (.iaload, 1) := by decide +kernel
theorem dL_law_462 : decode cL_law 462 = .ok (.invokevirtual 57, 3) := by decide +kernel
theorem dL_law_465 : decode cL_law 465 = .ok (.aload_n 2, 1) := by decide +kernel
theorem dL_law_466 : decode cL_law 466 = .ok (.aload_n 0, 1) := by decide +kernel
theorem dL_law_467 : decode cL_law 467 = .ok (.iload_n 3, 1) := by decide +kernel
theorem dL_law_468 : decode cL_law 468 = .ok (.iconst 1, 1) := by decide +kernel
theorem dL_law_469 : decode cL_law 469 = .ok (.iadd, 1) := by decide +kernel
theorem dL_law_470 : decode cL_law 470 = .ok (.iaload, 1) := by decide +kernel
theorem dL_law_471 : decode cL_law 471 = .ok (.invokevirtual 60, 3) := by decide +kernel
theorem dL_law_474 : decode cL_law 474 = .ok (.if_icmp .eq 414, 3) := by decide +kernel
theorem dL_law_477 : decode cL_law 477 = .ok (.iconst 0, 1) := by decide +kernel
theorem dL_law_478 : decode cL_law 478 = .ok (.ireturn, 1) := by decide +kernel
theorem dL_law_479 : decode cL_law 479 = .ok (.aload_n 1, 1) := by decide +kernel
theorem dL_law_480 : decode cL_law 480 = .ok (.aload_n 0, 1) := by decide +kernel
theorem dL_law_481 : decode cL_law 481 = .ok (.iload_n 3, 1) := by decide +kernel
theorem dL_law_482 : decode cL_law 482 = .ok (.iconst 1, 1) := by decide +kernel
theorem dL_law_483 : decode cL_law 483 = .ok (.iadd, 1) := by decide +kernel
theorem dL_law_484 : decode cL_law 484 = .ok (.iaload, 1) := by decide +kernel
theorem dL_law_485 : decode cL_law 485 = .ok (.aload_n 0, 1) := by decide +kernel
theorem dL_law_486 : decode cL_law 486 = .ok (.iload_n 3, 1) := by decide +kernel
theorem dL_law_487 : decode cL_law 487 = .ok (.iconst 2, 1) := by decide +kernel
theorem dL_law_488 : decode cL_law 488 = .ok (.iadd, 1) := by decide +kernel
theorem dL_law_489 : decode cL_law 489 = .ok (.iaload, 1) := by decide +kernel
theorem dL_law_490 : decode cL_law 490 = .ok (.aload_n 0, 1) := by decide +kernel
theorem dL_law_491 : decode cL_law 491 = .ok (.iload_n 3, 1) := by decide +kernel
theorem dL_law_492 : decode cL_law 492 = .ok (.iconst 3, 1) := by decide +kernel
theorem dL_law_493 : decode cL_law 493 = .ok (.iadd, 1) := by decide +kernel
theorem dL_law_494 : decode cL_law 494 = .ok (.iaload, 1) := by decide +kernel
theorem dL_law_495 : decode cL_law 495 = .ok (.invokevirtual 61, 3) := by decide +kernel
theorem dL_law_498 : decode cL_law 498 = .ok (.aload_n 2, 1) := by decide +kernel
theorem dL_law_499 : decode cL_law 499 = .ok (.aload_n 0, 1) := by decide +kernel
theorem dL_law_500 : decode cL_law 500 = .ok (.iload_n 3, 1) := by decide +kernel
theorem dL_law_501 : decode cL_law 501 = .ok (.iconst 1, 1) := by decide +kernel
theorem dL_law_502 : decode cL_law 502 = .ok (.iadd, 1) := by decide +kernel
theorem dL_law_503 : decode cL_law 503 = .ok (.iaload, 1) := by decide +kernel
theorem dL_law_504 : decode cL_law 504 = .ok (.aload_n 0, 1) := by decide +kernel
theorem dL_law_505 : decode cL_law 505 = .ok (.iload_n 3, 1) := by decide +kernel
theorem dL_law_506 : decode cL_law 506 = .ok (.iconst 2, 1) := by decide +kernel
theorem dL_law_507 : decode cL_law 507 = .ok (.iadd, 1) := by decide +kernel
theorem dL_law_508 : decode cL_law 508 = .ok (.iaload, 1) := by decide +kernel
theorem dL_law_509 : decode cL_law 509 = .ok (.aload_n 0, 1) := by decide +kernel
theorem dL_law_510 : decode cL_law 510 = .ok (.iload_n 3, 1) := by decide +kernel
theorem dL_law_511 : decode cL_law 511 = .ok (.iconst 3, 1) := by decide +kernel
theorem dL_law_512 : decode cL_law 512 = .ok (.iadd, 1) := by decide +kernel
theorem dL_law_513 : decode cL_law 513 = .ok (.iaload, 1) := by decide +kernel
theorem dL_law_514 : decode cL_law 514 = .ok (.invokevirtual 64, 3) := by decide +kernel
theorem dL_law_517 : decode cL_law 517 = .ok (.if_icmp .eq 371, 3) := by decide +kernel
theorem dL_law_520 : decode cL_law 520 = .ok (.iconst 0, 1) := by decide +kernel
theorem dL_law_521 : decode cL_law 521 = .ok (.ireturn, 1) := by decide +kernel
theorem dL_law_522 : decode cL_law 522 = .ok (.aload_n 1, 1) := by decide +kernel
theorem dL_law_523 : decode cL_law 523 = .ok (.aload_n 0, 1) := by decide +kernel
theorem dL_law_524 : decode cL_law 524 = .ok (.iload_n 3, 1) := by decide +kernel
theorem dL_law_525 : decode cL_law 525 = .ok (.iconst 1, 1) := by decide +kernel
theorem dL_law_526 : decode cL_law 526 = .ok (.iadd, 1) := by decide +kernel
theorem dL_law_527 : decode cL_law 527 = .ok (.iaload, 1) := by decide +kernel
theorem dL_law_528 : decode cL_law 528 = .ok (.aload_n 0, 1) := by decide +kernel
theorem dL_law_529 : decode cL_law 529 = .ok (.iload_n 3, 1) := by decide +kernel
theorem dL_law_530 : decode cL_law 530 = .ok (.iconst 2, 1) := by decide +kernel
theorem dL_law_531 : decode cL_law 531 = .ok (.iadd, 1) := by decide +kernel
theorem dL_law_532 : decode cL_law 532 = .ok (.iaload, 1) := by decide +kernel
theorem dL_law_533 : decode cL_law 533 = .ok (.invokevirtual 65, 3) := by decide +kernel
theorem dL_law_536 : decode cL_law 536 = .ok (.aload_n 2, 1) := by decide +kernel
theorem dL_law_537 : decode cL_law 537 = .ok (.aload_n 0, 1) := by decide +kernel
theorem dL_law_538 : decode cL_law 538 = .ok (.iload_n 3, 1) := by decide +kernel
theorem dL_law_539 : decode cL_law 539 = .ok (.iconst 1, 1) := by decide +kernel
theorem dL_law_540 : decode cL_law 540 = .ok (.iadd, 1) := by decide +kernel
theorem dL_law_541 : decode cL_law 541 = .ok (.iaload, 1) := by decide +kernel
theorem dL_law_542 : decode cL_law 542 = .ok (.aload_n 0, 1) := by decide +kernel
theorem dL_law_543 : decode cL_law 543 = .ok (.iload_n 3, 1) := by decide +kernel
theorem dL_law_544 : decode cL_law 544 = .ok (.iconst 2, 1) := by decide +kernel
theorem dL_law_545 : decode cL_law 545 = .ok (.iadd, 1) := by decide +kernel
theorem dL_law_546 : decode cL_law 546 = .ok (.iaload, 1) := by decide +kernel
theorem dL_law_547 : decode cL_law 547 = .ok (.invokevirtual 68, 3) := by decide +kernel
theorem dL_law_550 : decode cL_law 550 = .ok (.if_icmp .eq 338, 3) := by decide +kernel
theorem dL_law_553 : decode cL_law 553 = .ok (.iconst 0, 1) := by decide +kernel
theorem dL_law_554 : decode cL_law 554 = .ok (.ireturn, 1) := by decide +kernel
theorem dL_law_555 : decode cL_law 555 = .ok (.aload_n 1, 1) := by decide +kernel
theorem dL_law_556 : decode cL_law 556 = .ok (.aload_n 0, 1) := by decide +kernel
theorem dL_law_557 : decode cL_law 557 = .ok (.iload_n 3, 1) := by decide +kernel
theorem dL_law_558 : decode cL_law 558 = .ok (.iconst 1, 1) := by decide +kernel
theorem dL_law_559 : decode cL_law 559 = .ok (.iadd, 1) := by decide +kernel
theorem dL_law_560 : decode cL_law 560 = .ok (.iaload, 1) := by decide +kernel
theorem dL_law_561 : decode cL_law 561 = .ok (.aload_n 0, 1) := by decide +kernel
theorem dL_law_562 : decode cL_law 562 = .ok (.iload_n 3, 1) := by decide +kernel
theorem dL_law_563 : decode cL_law 563 = .ok (.iconst 2, 1) := by decide +kernel
theorem dL_law_564 : decode cL_law 564 = .ok (.iadd, 1) := by decide +kernel
theorem dL_law_565 : decode cL_law 565 = .ok (.iaload, 1) := by decide +kernel
theorem dL_law_566 : decode cL_law 566 = .ok (.aload_n 0, 1) := by decide +kernel
theorem dL_law_567 : decode cL_law 567 = .ok (.iload_n 3, 1) := by decide +kernel
theorem dL_law_568 : decode cL_law 568 = .ok (.iconst 3, 1) := by decide +kernel
theorem dL_law_569 : decode cL_law 569 = .ok (.iadd, 1) := by decide +kernel
theorem dL_law_570 : decode cL_law 570 = .ok (.iaload, 1) := by decide +kernel
theorem dL_law_571 : decode cL_law 571 = .ok (.invokevirtual 69, 3) := by decide +kernel
theorem dL_law_574 : decode cL_law 574 = .ok (.aload_n 2, 1) := by decide +kernel
theorem dL_law_575 : decode cL_law 575 = .ok (.aload_n 0, 1) := by decide +kernel
theorem dL_law_576 : decode cL_law 576 = .ok (.iload_n 3, 1) := by decide +kernel
theorem dL_law_577 : decode cL_law 577 = .ok (.iconst 1, 1) := by decide +kernel
theorem dL_law_578 : decode cL_law 578 = .ok (.iadd, 1) := by decide +kernel
theorem dL_law_579 : decode cL_law 579 = .ok (.iaload, 1) := by decide +kernel
theorem dL_law_580 : decode cL_law 580 = .ok (.aload_n 0, 1) := by decide +kernel
theorem dL_law_581 : decode cL_law 581 = .ok (.iload_n 3, 1) := by decide +kernel
theorem dL_law_582 : decode cL_law 582 = .ok (.iconst 2, 1) := by decide +kernel
theorem dL_law_583 : decode cL_law 583 = .ok (.iadd, 1) := by decide +kernel
theorem dL_law_584 : decode cL_law 584 = .ok (.iaload, 1) := by decide +kernel
theorem dL_law_585 : decode cL_law 585 = .ok (.aload_n 0, 1) := by decide +kernel
theorem dL_law_586 : decode cL_law 586 = .ok (.iload_n 3, 1) := by decide +kernel
theorem dL_law_587 : decode cL_law 587 = .ok (.iconst 3, 1) := by decide +kernel
theorem dL_law_588 : decode cL_law 588 = .ok (.iadd, 1) := by decide +kernel
theorem dL_law_589 : decode cL_law 589 = .ok (.iaload, 1) := by decide +kernel
theorem dL_law_590 : decode cL_law 590 = .ok (.invokevirtual 72, 3) := by decide +kernel
theorem dL_law_593 : decode cL_law 593 = .ok (.if_icmp .eq 295, 3) := by decide +kernel
theorem dL_law_596 : decode cL_law 596 = .ok (.iconst 0, 1) := by decide +kernel
theorem dL_law_597 : decode cL_law 597 = .ok (.ireturn, 1) := by decide +kernel
theorem dL_law_598 : decode cL_law 598 = .ok (.aload_n 1, 1) := by decide +kernel
theorem dL_law_599 : decode cL_law 599 = .ok (.aload_n 0, 1) := by decide +kernel
theorem dL_law_600 : decode cL_law 600 = .ok (.iload_n 3, 1) := by decide +kernel
theorem dL_law_601 : decode cL_law 601 = .ok (.iconst 1, 1) := by decide +kernel
theorem dL_law_602 : decode cL_law 602 = .ok (.iadd, 1) := by decide +kernel
theorem dL_law_603 : decode cL_law 603 = .ok (.iaload, 1) := by decide +kernel
theorem dL_law_604 : decode cL_law 604 = .ok (.aload_n 0, 1) := by decide +kernel
theorem dL_law_605 : decode cL_law 605 = .ok (.iload_n 3, 1) := by decide +kernel
theorem dL_law_606 : decode cL_law 606 = .ok (.iconst 2, 1) := by decide +kernel
theorem dL_law_607 : decode cL_law 607 = .ok (.iadd, 1) := by decide +kernel
theorem dL_law_608 : decode cL_law 608 = .ok (.iaload, 1) := by decide +kernel
theorem dL_law_609 : decode cL_law 609 = .ok (.aload_n 0, 1) := by decide +kernel
theorem dL_law_610 : decode cL_law 610 = .ok (.iload_n 3, 1) := by decide +kernel
theorem dL_law_611 : decode cL_law 611 = .ok (.iconst 3, 1) := by decide +kernel
theorem dL_law_612 : decode cL_law 612 = .ok (.iadd, 1) := by decide +kernel
theorem dL_law_613 : decode cL_law 613 = .ok (.iaload, 1) := by decide +kernel
theorem dL_law_614 : decode cL_law 614 = .ok (.aload_n 0, 1) := by decide +kernel
theorem dL_law_615 : decode cL_law 615 = .ok (.iload_n 3, 1) := by decide +kernel
theorem dL_law_616 : decode cL_law 616 = .ok (.iconst 4, 1) := by decide +kernel
theorem dL_law_617 : decode cL_law 617 = .ok (.iadd, 1) := by decide +kernel
theorem dL_law_618 : decode cL_law 618 = .ok (.iaload, 1) := by decide +kernel
theorem dL_law_619 : decode cL_law 619 = .ok (.invokevirtual 73, 3) := by decide +kernel
theorem dL_law_622 : decode cL_law 622 = .ok (.aload_n 2, 1) := by decide +kernel
theorem dL_law_623 : decode cL_law 623 = .ok (.aload_n 0, 1) := by decide +kernel
theorem dL_law_624 : decode cL_law 624 = .ok (.iload_n 3, 1) := by decide +kernel
theorem dL_law_625 : decode cL_law 625 = .ok (.iconst 1, 1) := by decide +kernel
theorem dL_law_626 : decode cL_law 626 = .ok (.iadd, 1) := by decide +kernel
theorem dL_law_627 : decode cL_law 627 = .ok (.iaload, 1) := by decide +kernel
theorem dL_law_628 : decode cL_law 628 = .ok (.aload_n 0, 1) := by decide +kernel
theorem dL_law_629 : decode cL_law 629 = .ok (.iload_n 3, 1) := by decide +kernel
theorem dL_law_630 : decode cL_law 630 = .ok (.iconst 2, 1) := by decide +kernel
theorem dL_law_631 : decode cL_law 631 = .ok (.iadd, 1) := by decide +kernel
theorem dL_law_632 : decode cL_law 632 = .ok (.iaload, 1) := by decide +kernel
theorem dL_law_633 : decode cL_law 633 = .ok (.aload_n 0, 1) := by decide +kernel
theorem dL_law_634 : decode cL_law 634 = .ok (.iload_n 3, 1) := by decide +kernel
theorem dL_law_635 : decode cL_law 635 = .ok (.iconst 3, 1) := by decide +kernel
theorem dL_law_636 : decode cL_law 636 = .ok (.iadd, 1) := by decide +kernel
theorem dL_law_637 : decode cL_law 637 = .ok (.iaload, 1) := by decide +kernel
theorem dL_law_638 : decode cL_law 638 = .ok (.aload_n 0, 1) := by decide +kernel
theorem dL_law_639 : decode cL_law 639 = .ok (.iload_n 3, 1) := by decide +kernel
theorem dL_law_640 : decode cL_law 640 = .ok (.iconst 4, 1) := by decide +kernel
theorem dL_law_641 : decode cL_law 641 = .ok (.iadd, 1) := by decide +kernel
theorem dL_law_642 : decode cL_law 642 = .ok (.iaload, 1) := by decide +kernel
theorem dL_law_643 : decode cL_law 643 = .ok (.invokevirtual 77, 3) := by decide +kernel
theorem dL_law_646 : decode cL_law 646 = .ok (.if_icmp .eq 242, 3) := by decide +kernel
theorem dL_law_649 : decode cL_law 649 = .ok (.iconst 0, 1) := by decide +kernel
theorem dL_law_650 : decode cL_law 650 = .ok (.ireturn, 1) := by decide +kernel
theorem dL_law_651 : decode cL_law 651 = .ok (.aload_n 1, 1) := by decide +kernel
theorem dL_law_652 : decode cL_law 652 = .ok (.aload_n 0, 1) := by decide +kernel
theorem dL_law_653 : decode cL_law 653 = .ok (.iload_n 3, 1) := by decide +kernel
theorem dL_law_654 : decode cL_law 654 = .ok (.iconst 1, 1) := by decide +kernel
theorem dL_law_655 : decode cL_law 655 = .ok (.iadd, 1) := by decide +kernel
theorem dL_law_656 : decode cL_law 656 = .ok (.iaload, 1) := by decide +kernel
theorem dL_law_657 : decode cL_law 657 = .ok (.aload_n 0, 1) := by decide +kernel
theorem dL_law_658 : decode cL_law 658 = .ok (.iload_n 3, 1) := by decide +kernel
theorem dL_law_659 : decode cL_law 659 = .ok (.iconst 2, 1) := by decide +kernel
theorem dL_law_660 : decode cL_law 660 = .ok (.iadd, 1) := by decide +kernel
theorem dL_law_661 : decode cL_law 661 = .ok (.iaload, 1) := by decide +kernel
theorem dL_law_662 : decode cL_law 662 = .ok (.invokevirtual 78, 3) := by decide +kernel
theorem dL_law_665 : decode cL_law 665 = .ok (.aload_n 2, 1) := by decide +kernel
theorem dL_law_666 : decode cL_law 666 = .ok (.aload_n 0, 1) := by decide +kernel
theorem dL_law_667 : decode cL_law 667 = .ok (.iload_n 3, 1) := by decide +kernel
theorem dL_law_668 : decode cL_law 668 = .ok (.iconst 1, 1) := by decide +kernel
theorem dL_law_669 : decode cL_law 669 = .ok (.iadd, 1) := by decide +kernel
theorem dL_law_670 : decode cL_law 670 = .ok (.iaload, 1) := by decide +kernel
theorem dL_law_671 : decode cL_law 671 = .ok (.aload_n 0, 1) := by decide +kernel
theorem dL_law_672 : decode cL_law 672 = .ok (.iload_n 3, 1) := by decide +kernel
theorem dL_law_673 : decode cL_law 673 = .ok (.iconst 2, 1) := by decide +kernel
theorem dL_law_674 : decode cL_law 674 = .ok (.iadd, 1) := by decide +kernel
theorem dL_law_675 : decode cL_law 675 = .ok (.iaload, 1) := by decide +kernel
theorem dL_law_676 : decode cL_law 676 = .ok (.invokevirtual 81, 3) := by decide +kernel
theorem dL_law_679 : decode cL_law 679 = .ok (.if_icmp .eq 209, 3) := by decide +kernel
theorem dL_law_682 : decode cL_law 682 = .ok (.iconst 0, 1) := by decide +kernel
theorem dL_law_683 : decode cL_law 683 = .ok (.ireturn, 1) := by decide +kernel
theorem dL_law_684 : decode cL_law 684 = .ok (.aload_n 1, 1) := by decide +kernel
theorem dL_law_685 : decode cL_law 685 = .ok (.aload_n 0, 1) := by decide +kernel
theorem dL_law_686 : decode cL_law 686 = .ok (.iload_n 3, 1) := by decide +kernel
theorem dL_law_687 : decode cL_law 687 = .ok (.iconst 1, 1) := by decide +kernel
theorem dL_law_688 : decode cL_law 688 = .ok (.iadd, 1) := by decide +kernel
theorem dL_law_689 : decode cL_law 689 = .ok (.iaload, 1) := by decide +kernel
theorem dL_law_690 : decode cL_law 690 = .ok (.invokevirtual 82, 3) := by decide +kernel
theorem dL_law_693 : decode cL_law 693 = .ok (.aload_n 2, 1) := by decide +kernel
theorem dL_law_694 : decode cL_law 694 = .ok (.aload_n 0, 1) := by decide +kernel
theorem dL_law_695 : decode cL_law 695 = .ok (.iload_n 3, 1) := by decide +kernel
theorem dL_law_696 : decode cL_law 696 = .ok (.iconst 1, 1) := by decide +kernel
theorem dL_law_697 : decode cL_law 697 = .ok (.iadd, 1) := by decide +kernel
theorem dL_law_698 : decode cL_law 698 = .ok (.iaload, 1) := by decide +kernel
theorem dL_law_699 : decode cL_law 699 = .ok (.invokevirtual 85, 3) := by decide +kernel
theorem dL_law_702 : decode cL_law 702 = .ok (.if_icmp .eq 186, 3) := by decide +kernel
theorem dL_law_705 : decode cL_law 705 = .ok (.iconst 0, 1) := by decide +kernel
theorem dL_law_706 : decode cL_law 706 = .ok (.ireturn, 1) := by decide +kernel
theorem dL_law_707 : decode cL_law 707 = .ok (.aload_n 1, 1) := by decide +kernel
theorem dL_law_708 : decode cL_law 708 = .ok (.invokevirtual 86, 3) := by decide +kernel
theorem dL_law_711 : decode cL_law 711 = .ok (.aload_n 2, 1) := by decide +kernel
theorem dL_law_712 : decode cL_law 712 = .ok (.invokevirtual 89, 3) := by decide +kernel
theorem dL_law_715 : decode cL_law 715 = .ok (.if_icmp .eq 173, 3) := by decide +kernel
theorem dL_law_718 : decode cL_law 718 = .ok (.iconst 0, 1) := by decide +kernel
theorem dL_law_719 : decode cL_law 719 = .ok (.ireturn, 1) := by decide +kernel
theorem dL_law_720 : decode cL_law 720 = .ok (.aload_n 1, 1) := by decide +kernel
theorem dL_law_721 : decode cL_law 721 = .ok (.invokevirtual 90, 3) := by decide +kernel
theorem dL_law_724 : decode cL_law 724 = .ok (.aload_n 2, 1) := by decide +kernel
theorem dL_law_725 : decode cL_law 725 = .ok (.invokevirtual 93, 3) := by decide +kernel
theorem dL_law_728 : decode cL_law 728 = .ok (.if_icmp .eq 160, 3) := by decide +kernel
theorem dL_law_731 : decode cL_law 731 = .ok (.iconst 0, 1) := by decide +kernel
theorem dL_law_732 : decode cL_law 732 = .ok (.ireturn, 1) := by decide +kernel
theorem dL_law_733 : decode cL_law 733 = .ok (.aload_n 1, 1) := by decide +kernel
theorem dL_law_734 : decode cL_law 734 = .ok (.aload_n 0, 1) := by decide +kernel
theorem dL_law_735 : decode cL_law 735 = .ok (.iload_n 3, 1) := by decide +kernel
theorem dL_law_736 : decode cL_law 736 = .ok (.iconst 1, 1) := by decide +kernel
theorem dL_law_737 : decode cL_law 737 = .ok (.iadd, 1) := by decide +kernel
theorem dL_law_738 : decode cL_law 738 = .ok (.iaload, 1) := by decide +kernel
theorem dL_law_739 : decode cL_law 739 = .ok (.aload_n 0, 1) := by decide +kernel
theorem dL_law_740 : decode cL_law 740 = .ok (.iload_n 3, 1) := by decide +kernel
theorem dL_law_741 : decode cL_law 741 = .ok (.iconst 2, 1) := by decide +kernel
theorem dL_law_742 : decode cL_law 742 = .ok (.iadd, 1) := by decide +kernel
theorem dL_law_743 : decode cL_law 743 = .ok (.iaload, 1) := by decide +kernel
theorem dL_law_744 : decode cL_law 744 = .ok (.invokevirtual 94, 3) := by decide +kernel
theorem dL_law_747 : decode cL_law 747 = .ok (.aload_n 2, 1) := by decide +kernel
theorem dL_law_748 : decode cL_law 748 = .ok (.aload_n 0, 1) := by decide +kernel
theorem dL_law_749 : decode cL_law 749 = .ok (.iload_n 3, 1) := by decide +kernel
theorem dL_law_750 : decode cL_law 750 = .ok (.iconst 1, 1) := by decide +kernel
theorem dL_law_751 : decode cL_law 751 = .ok (.iadd, 1) := by decide +kernel
theorem dL_law_752 : decode cL_law 752 = .ok (.iaload, 1) := by decide +kernel
theorem dL_law_753 : decode cL_law 753 = .ok (.aload_n 0, 1) := by decide +kernel
theorem dL_law_754 : decode cL_law 754 = .ok (.iload_n 3, 1) := by decide +kernel
theorem dL_law_755 : decode cL_law 755 = .ok (.iconst 2, 1) := by decide +kernel
theorem dL_law_756 : decode cL_law 756 = .ok (.iadd, 1) := by decide +kernel
theorem dL_law_757 : decode cL_law 757 = .ok (.iaload, 1) := by decide +kernel
theorem dL_law_758 : decode cL_law 758 = .ok (.invokevirtual 97, 3) := by decide +kernel
theorem dL_law_761 : decode cL_law 761 = .ok (.if_icmp .eq 127, 3) := by decide +kernel
theorem dL_law_764 : decode cL_law 764 = .ok (.iconst 0, 1) := by decide +kernel
theorem dL_law_765 : decode cL_law 765 = .ok (.ireturn, 1) := by decide +kernel
theorem dL_law_766 : decode cL_law 766 = .ok (.aload_n 1, 1) := by decide +kernel
theorem dL_law_767 : decode cL_law 767 = .ok (.aload_n 0, 1) := by decide +kernel
theorem dL_law_768 : decode cL_law 768 = .ok (.iload_n 3, 1) := by decide +kernel
theorem dL_law_769 : decode cL_law 769 = .ok (.iconst 1, 1) := by decide +kernel
theorem dL_law_770 : decode cL_law 770 = .ok (.iadd, 1) := by decide +kernel
theorem dL_law_771 : decode cL_law 771 = .ok (.iaload, 1) := by decide +kernel
theorem dL_law_772 : decode cL_law 772 = .ok (.invokevirtual 98, 3) := by decide +kernel
theorem dL_law_775 : decode cL_law 775 = .ok (.aload_n 2, 1) := by decide +kernel
theorem dL_law_776 : decode cL_law 776 = .ok (.aload_n 0, 1) := by decide +kernel
theorem dL_law_777 : decode cL_law 777 = .ok (.iload_n 3, 1) := by decide +kernel
theorem dL_law_778 : decode cL_law 778 = .ok (.iconst 1, 1) := by decide +kernel
theorem dL_law_779 : decode cL_law 779 = .ok (.iadd, 1) := by decide +kernel
theorem dL_law_780 : decode cL_law 780 = .ok (.iaload, 1) := by decide +kernel
theorem dL_law_781 : decode cL_law 781 = .ok (.invokevirtual 101, 3) := by decide +kernel
theorem dL_law_784 : decode cL_law 784 = .ok (.if_icmp .eq 104, 3) := by decide +kernel
theorem dL_law_787 : decode cL_law 787 = .ok (.iconst 0, 1) := by decide +kernel
theorem dL_law_788 : decode cL_law 788 = .ok (.ireturn, 1) := by decide +kernel
theorem dL_law_789 : decode cL_law 789 = .ok (.aload_n 1, 1) := by decide +kernel
theorem dL_law_790 : decode cL_law 790 = .ok (.aload_n 0, 1) := by decide +kernel
theorem dL_law_791 : decode cL_law 791 = .ok (.iload_n 3, 1) := by decide +kernel
theorem dL_law_792 : decode cL_law 792 = .ok (.iconst 1, 1) := by decide +kernel
theorem dL_law_793 : decode cL_law 793 = .ok (.iadd, 1) := by decide +kernel
theorem dL_law_794 : decode cL_law 794 = .ok (.iaload, 1) := by decide +kernel
theorem dL_law_795 : decode cL_law 795 = .ok (.invokevirtual 102, 3) := by decide +kernel
theorem dL_law_798 : decode cL_law 798 = .ok (.aload_n 2, 1) := by decide +kernel
theorem dL_law_799 : decode cL_law 799 = .ok (.aload_n 0, 1) := by decide +kernel
theorem dL_law_800 : decode cL_law 800 = .ok (.iload_n 3, 1) := by decide +kernel
theorem dL_law_801 : decode cL_law 801 = .ok (.iconst 1, 1) := by decide +kernel
theorem dL_law_802 : decode cL_law 802 = .ok (.iadd, 1) := by decide +kernel
theorem dL_law_803 : decode cL_law 803 = .ok (.iaload, 1) := by decide +kernel
theorem dL_law_804 : decode cL_law 804 = .ok (.invokevirtual 105, 3) := by decide +kernel
theorem dL_law_807 : decode cL_law 807 = .ok (.if_icmp .eq 81, 3) := by decide +kernel
theorem dL_law_810 : decode cL_law 810 = .ok (.iconst 0, 1) := by decide +kernel
theorem dL_law_811 : decode cL_law 811 = .ok (.ireturn, 1) := by decide +kernel
theorem dL_law_812 : decode cL_law 812 = .ok (.aload_n 1, 1) := by decide +kernel
theorem dL_law_813 : decode cL_law 813 = .ok (.invokevirtual 106, 3) := by decide +kernel
theorem dL_law_816 : decode cL_law 816 = .ok (.aload_n 2, 1) := by decide +kernel
theorem dL_law_817 : decode cL_law 817 = .ok (.invokevirtual 109, 3) := by decide +kernel
theorem dL_law_820 : decode cL_law 820 = .ok (.if_icmp .eq 68, 3) := by decide +kernel
theorem dL_law_823 : decode cL_law 823 = .ok (.iconst 0, 1) := by decide +kernel
theorem dL_law_824 : decode cL_law 824 = .ok (.ireturn, 1) := by decide +kernel
theorem dL_law_825 : decode cL_law 825 = .ok (.aload_n 1, 1) := by decide +kernel
theorem dL_law_826 : decode cL_law 826 = .ok (.invokevirtual 110, 3) := by decide +kernel
theorem dL_law_829 : decode cL_law 829 = .ok (.aload_n 2, 1) := by decide +kernel
theorem dL_law_830 : decode cL_law 830 = .ok (.invokevirtual 113, 3) := by decide +kernel
theorem dL_law_833 : decode cL_law 833 = .ok (.if_icmp .eq 55, 3) := by decide +kernel
theorem dL_law_836 : decode cL_law 836 = .ok (.iconst 0, 1) := by decide +kernel
theorem dL_law_837 : decode cL_law 837 = .ok (.ireturn, 1) := by decide +kernel
theorem dL_law_838 : decode cL_law 838 = .ok (.aload_n 1, 1) := by decide +kernel
theorem dL_law_839 : decode cL_law 839 = .ok (.invokevirtual 114, 3) := by decide +kernel
theorem dL_law_842 : decode cL_law 842 = .ok (.aload_n 2, 1) := by decide +kernel
theorem dL_law_843 : decode cL_law 843 = .ok (.invokevirtual 117, 3) := by decide +kernel
theorem dL_law_846 : decode cL_law 846 = .ok (.if_icmp .eq 42, 3) := by decide +kernel
theorem dL_law_849 : decode cL_law 849 = .ok (.iconst 0, 1) := by decide +kernel
theorem dL_law_850 : decode cL_law 850 = .ok (.ireturn, 1) := by decide +kernel
theorem dL_law_851 : decode cL_law 851 = .ok (.aload_n 1, 1) := by decide +kernel
theorem dL_law_852 : decode cL_law 852 = .ok (.aload_n 0, 1) := by decide +kernel
theorem dL_law_853 : decode cL_law 853 = .ok (.iload_n 3, 1) := by decide +kernel
theorem dL_law_854 : decode cL_law 854 = .ok (.iconst 1, 1) := by decide +kernel
theorem dL_law_855 : decode cL_law 855 = .ok (.iadd, 1) := by decide +kernel
theorem dL_law_856 : decode cL_law 856 = .ok (.iaload, 1) := by decide +kernel
theorem dL_law_857 : decode cL_law 857 = .ok (.invokevirtual 118, 3) := by decide +kernel
theorem dL_law_860 : decode cL_law 860 = .ok (.aload_n 2, 1) := by decide +kernel
theorem dL_law_861 : decode cL_law 861 = .ok (.aload_n 0, 1) := by decide +kernel
theorem dL_law_862 : decode cL_law 862 = .ok (.iload_n 3, 1) := by decide +kernel
theorem dL_law_863 : decode cL_law 863 = .ok (.iconst 1, 1) := by decide +kernel
theorem dL_law_864 : decode cL_law 864 = .ok (.iadd, 1) := by decide +kernel
theorem dL_law_865 : decode cL_law 865 = .ok (.iaload, 1) := by decide +kernel
theorem dL_law_866 : decode cL_law 866 = .ok (.invokevirtual 121, 3) := by decide +kernel
theorem dL_law_869 : decode cL_law 869 = .ok (.if_icmp .eq 19, 3) := by decide +kernel
theorem dL_law_872 : decode cL_law 872 = .ok (.iconst 0, 1) := by decide +kernel
theorem dL_law_873 : decode cL_law 873 = .ok (.ireturn, 1) := by decide +kernel
theorem dL_law_874 : decode cL_law 874 = .ok (.aload_n 1, 1) := by decide +kernel
theorem dL_law_875 : decode cL_law 875 = .ok (.invokevirtual 122, 3) := by decide +kernel
theorem dL_law_878 : decode cL_law 878 = .ok (.aload_n 2, 1) := by decide +kernel
theorem dL_law_879 : decode cL_law 879 = .ok (.invokevirtual 126, 3) := by decide +kernel
theorem dL_law_882 : decode cL_law 882 = .ok (.lcmp, 1) := by decide +kernel
theorem dL_law_883 : decode cL_law 883 = .ok (.ifCond .eq 5, 3) := by decide +kernel
theorem dL_law_886 : decode cL_law 886 = .ok (.iconst 0, 1) := by decide +kernel
theorem dL_law_887 : decode cL_law 887 = .ok (.ireturn, 1) := by decide +kernel
theorem dL_law_888 : decode cL_law 888 = .ok (.iinc 3 5, 3) := by decide +kernel
theorem dL_law_891 : decode cL_law 891 = .ok (.goto (-873), 3) := by decide +kernel
theorem dL_law_894 : decode cL_law 894 = .ok (.iconst 1, 1) := by decide +kernel
theorem dL_law_895 : decode cL_law 895 = .ok (.ireturn, 1) := by decide +kernel
end
section
/-! The static layout: which cells there are behind the base, of which kind, how long, where their references point. -/
/-- a Square at a: itself, its five arrays, its eight calls of four cells -/
def sqBlk (a : Nat) : List (Nat × Nat × List Nat) := [(3, 9, [0, a + 1, a + 2, 0, a + 3, 0, a + 4, a + 5, 0]), (7, 8, []), (7, 8, []), (8, 8, (List.range 8).map (fun c => a + 6 + 4 * c)), (7, 12, []), (7, 8, [])] ++ (List.range 8).flatMap (fun c => [(0, 3, [a + 7 + 4 * c, a + 8 + 4 * c, a + 9 + 4 * c]), (7, 12, []), (7, 12, []), (7, 12, [])])
def layL : List (Nat × Nat × List Nat) := [(5, 5, [1, 39, 269, 273, 297])] ++ sqBlk 1 ++ [(1, 3, [40, 0, 0]), (9, 6, (List.range 6).map (fun i => 41 + 38 * i))] ++ (List.range 6).flatMap (fun i => sqBlk (41 + 38 * i)) ++
  [(4, 8, [270, 0, 0, 0, 0, 271, 272, 0]), (7, 120, []), (7, 3, []), (7, 12, []),
   (2, 15, [274, 284, 285, 286, 293, 294, 295, 296, 0, 0, 0, 0, 0, 0, 0]), (10, 9, (List.range 9).map (fun i => 275 + i))] ++ List.replicate 9 (7, 48, []) ++
  [(7, 8, []), (7, 8, []), (10, 6, (List.range 6).map (fun i => 287 + i))] ++ List.replicate 6 (7, 8, []) ++
  [(7, 6, []), (7, 8, []), (7, 5, []), (7, 8, []), (7, 3, []),
   (6, 14, [299, 300, 0, 301, 302, 0, 303, 304, 305, 306, 0, 0, 0, 0]), (7, 336, []), (7, 1680, []), (7, 336, []), (7, 3, []), (7, 120, []), (7, 96, []), (7, 6, []), (7, 1560, [])]
/-- a cell's kind: 0 to 6 the classes, 7 int[], 8 Call[], 9 Square[], 10 int[][], 99 none -/
def kd (k : Nat) : Nat := (layL.getD k (99, 0, [])).1
def ln (k : Nat) : Nat := (layL.getD k (99, 0, [])).2.1
def rf (k j : Nat) : Nat := (layL.getD k (99, 0, [])).2.2.getD j 0
/-- is the slot j of class c a reference -/
def irf (c j : Nat) : Bool := match c with
  | 0 => true
  | 1 => j == 0
  | 2 => decide (j < 8)
  | 3 => j == 1 || j == 2 || j == 4 || j == 6 || j == 7
  | 4 => j == 0 || j == 5 || j == 6
  | 5 => true
  | _ => j == 0 || j == 1 || j == 3 || j == 4 || j == 6 || j == 7 || j == 8 || j == 9
theorem lay_len : layL.length = 307 := by decide +kernel
theorem kd_lt {k : Nat} (h : kd k ≤ 10) : k < 307 := by
  rcases Nat.lt_or_ge k 307 with q | q
  · exact q
  · unfold kd at h
    rw [List.getD_eq_getElem?_getD, List.getElem?_eq_none (by rw [lay_len]; exact q)] at h
    exact absurd h (by decide)
/-- all numbers: of each cell, of each slot -/
abbrev Sg : Type := Nat → Nat → Int32
/-- the classes' numbers and slots, the base, int[]'s class, the other arrays' classes by kind -/
abbrev Gt : Type := (Nat → ClassId) × (Nat → Nat → Nat) × Nat × ClassId × (Nat → ClassId)
abbrev cls : List vw_C := [(RX0, TX0, 3), (RX1, TX1, 3), (RX2, TX2, 15), (RX3, TX3, 9), (RX4, TX4, 8), (RX5, TX5, 5), (RX6, TX6, 14)]
abbrev Gd (G : Gt) : va_G := (G.1, G.2.1)
abbrev Gb (G : Gt) : Nat := G.2.2.1
def tys (G : Gt) : List (ClassId × FieldType) := [(G.2.2.2.1, .int), (G.2.2.2.2 8, .object RX0), (G.2.2.2.2 9, .object RX3), (G.2.2.2.2 10, .array .int)]
def ceF (G : Gt) (σ : Sg) (k j : Nat) : Value := if irf (kd k) j = true then .ref (Gb G + rf k j) else .int (σ k j)
def ce (G : Gt) (σ : Sg) (k : Nat) : va_E := if kd k ≤ 6 then .inr (kd k, (List.range (ln k)).map (ceF G σ k)) else if kd k = 7 then .inl (G.2.2.2.1, ln k, .inl (σ k)) else .inl (G.2.2.2.2 (kd k), ln k, .inr (.inr (.inr (.inr (fun i => some (Gb G + rf k i))))))
def wsO (G : Gt) (σ : Sg) : va_W := (List.range 307).map (fun k => (Gb G + k, ce G σ k))
def Af (G : Gt) : Nat → Prop := fun q => Gb G ≤ q
theorem wsO_at (G : Gt) (σ : Sg) {k : Nat} (h : k < 307) : (wsO G σ)[k]? = some (Gb G + k, ce G σ k) := by
  unfold wsO
  rw [List.getElem?_map, List.getElem?_range h]
  rfl
theorem wsO_of (G : Gt) (σ : Sg) {k : Nat} {q : Nat × va_E} (h : (wsO G σ)[k]? = some q) : k < 307 ∧ q = (Gb G + k, ce G σ k) := by
  rcases Nat.lt_or_ge k 307 with r | r
  · rw [wsO_at G σ r] at h
    exact ⟨r, (Option.some.inj h).symm⟩
  · exfalso
    unfold wsO at h
    rw [List.getElem?_eq_none (by rw [List.length_map, List.length_range]; exact r)] at h
    cases h
theorem wsO_D (G : Gt) (σ : Sg) : va_D (Af G) (wsO G σ) := by
  refine ⟨fun i j p q hi hj e => ?_, fun k q hk => ?_⟩
  · obtain ⟨-, rfl⟩ := wsO_of G σ hi
    obtain ⟨-, rfl⟩ := wsO_of G σ hj
    exact Nat.add_left_cancel e
  · obtain ⟨-, rfl⟩ := wsO_of G σ hk
    exact Nat.le_add_right _ _
theorem ce_congr (G : Gt) (σ σ' : Sg) {k : Nat} (h : σ' k = σ k) : ce G σ' k = ce G σ k := by
  unfold ce
  have e : ceF G σ' k = ceF G σ k := by
    funext j
    unfold ceF
    rw [h]
  rw [e, h]
theorem wsO_set (G : Gt) (σ σ' : Sg) {k : Nat} (h : k < 307) {e : va_E} (he : e = ce G σ' k) (ho : ∀ j, j ≠ k → σ' j = σ j) : (wsO G σ).set k (Gb G + k, e) = wsO G σ' := by
  subst he
  apply List.ext_getElem?
  intro i
  by_cases hi : i = k
  · subst hi
    rw [List.getElem?_set_self (by unfold wsO; rw [List.length_map, List.length_range]; exact h), wsO_at G σ' h]
  · rw [List.getElem?_set_ne (Ne.symm hi)]
    rcases Nat.lt_or_ge i 307 with r | r
    · rw [wsO_at G σ r, wsO_at G σ' r, ce_congr G σ σ' (ho i hi)]
    · unfold wsO
      rw [List.getElem?_eq_none (by rw [List.length_map, List.length_range]; exact r), List.getElem?_eq_none (by rw [List.length_map, List.length_range]; exact r)]
/-- one number is set -/
def up (σ : Sg) (k i : Nat) (v : Int32) : Sg := fun a b => if a = k ∧ b = i then v else σ a b
theorem up_o (σ : Sg) (k i : Nat) (v : Int32) {j : Nat} (h : j ≠ k) : up σ k i v j = σ j := by
  funext b
  unfold up
  rw [if_neg (fun q => h q.1)]
theorem up_s (σ : Sg) (k i : Nat) (v : Int32) : up σ k i v k = upd (σ k) i v := by
  funext b
  unfold up upd
  by_cases h : b = i
  · rw [if_pos ⟨rfl, h⟩, if_pos h]
  · rw [if_neg (fun q => h q.2), if_neg h]
/-- a stretch of one row is copied -/
def cpy (σ : Sg) (a sp b dp n : Nat) : Sg := fun k i => if k = b then va_cpy (σ a) (σ b) sp dp n i else σ k i
theorem cpy_o (σ : Sg) (a sp b dp n : Nat) {j : Nat} (h : j ≠ b) : cpy σ a sp b dp n j = σ j := by
  funext i
  unfold cpy
  rw [if_neg h]
theorem cpy_s (σ : Sg) (a sp b dp n : Nat) : cpy σ a sp b dp n b = va_cpy (σ a) (σ b) sp dp n := by
  funext i
  unfold cpy
  rw [if_pos rfl]
theorem ce_obj (G : Gt) (σ : Sg) {k ci : Nat} (h : kd k = ci) (hc : ci ≤ 6) : ce G σ k = .inr (ci, (List.range (ln k)).map (ceF G σ k)) := by
  subst h
  unfold ce
  rw [if_pos hc]
theorem ce_int (G : Gt) (σ : Sg) {k : Nat} (h : kd k = 7) : ce G σ k = .inl (G.2.2.2.1, ln k, .inl (σ k)) := by
  unfold ce
  rw [if_neg (by rw [h]; decide), if_pos h]
theorem ce_ref (G : Gt) (σ : Sg) {k t : Nat} (h : kd k = t) (ht : 8 ≤ t) : ce G σ k = .inl (G.2.2.2.2 t, ln k, .inr (.inr (.inr (.inr (fun i => some (Gb G + rf k i)))))) := by
  subst h
  unfold ce
  rw [if_neg (by omega), if_neg (by omega)]
theorem ceF_set (G : Gt) (σ : Sg) {k j n : Nat} (v : Int32) (hi : irf (kd k) j = false) : ((List.range n).map (ceF G σ k)).set j (.int v) = (List.range n).map (ceF G (up σ k j v) k) := by
  apply List.ext_getElem?
  intro i
  by_cases h : i = j
  · subst h
    by_cases hn : i < n
    · rw [List.getElem?_set_self (by rw [List.length_map, List.length_range]; exact hn), List.getElem?_map, List.getElem?_range hn]
      simp [ceF, hi, up]
    · rw [List.getElem?_eq_none (by rw [List.length_set, List.length_map, List.length_range]; omega), List.getElem?_eq_none (by rw [List.length_map, List.length_range]; omega)]
  · rw [List.getElem?_set_ne (Ne.symm h), List.getElem?_map, List.getElem?_map]
    rcases Nat.lt_or_ge i n with r | r
    · rw [List.getElem?_range r]
      simp [ceF, up, h]
    · rw [List.getElem?_eq_none (by rw [List.length_range]; exact r)]
      rfl
/-! words: those of the tables that every call hands on; the nests' links beside them -/
def gtb : List Cond := lw_tbl.filter goodWord
theorem gtb_good : GoodIn gtb gtb := fun w h => ⟨h, good_of_word (List.mem_filter.mp h).2⟩
/-- a method: its class, code, locals, answer, rank -/
abbrev Mt : Type := String × ByteArray × Nat × Option FieldType × Nat
def rm (d : Nat) : Room := { frames := d, cells := 0, slots := 0, locals := 64 * d }
def wsM (y : MethodName) (M : Mt) : List Cond := Cond.code y M.2.1 M.2.2.1 M.2.2.2.1 :: gtb
end
section
/-- the links between nest mates -/
def nest : List (String × Nat × MethodName × String) := [(RX3, 30, yX0_init, RX5), (RX5, 25, yX4_init, RX5), (RX3, 54, yX5_isBelow, RX5), (RX3, 96, yX5_heldSpots, RX5), (RX3, 137, yX5_arePaired, RX5), (RX2, 85, yX5_heldSpots, RX5), (RX2, 124, yX5_arePaired, RX5), (RX2, 58, yX5_isBelow, RX5), (RX4, 21, yX5_isBelow, RX5)]
def Nl (s : State) : Prop := ∀ q ∈ nest, va_Nw (.methodLinkNest q.1 q.2.1 q.2.2.1 q.2.2.2) s
theorem Nl.warm {s U : State} (hW : s.WarmedH U.vm) (h : Nl s) : Nl U := fun q hq => va_Nw.warmM hW (h q hq)
theorem Nl.same {s U : State} (e : s.vm = U.vm) (h : Nl s) : Nl U := fun q hq => va_Nw.same rfl e (h q hq)
/-- what holds wherever a method's code is walked -/
def Cx (G : Gt) (M : Mt) (p : Program) (s : State) (m : MethodId) (args : Array Value) (meth : Method) (c : Code) : Prop :=
  p.tables.exec = Jvm.exec ∧ c.code = M.2.1 ∧ c.maxLocals = M.2.2.1 ∧ meth.sig.returnType = M.2.2.2.1 ∧ s.vm.findClass M.1 = some m.cls ∧ (∀ w ∈ gtb, w.before args s = true) ∧ meth.locks = false ∧ va_K (Gd G) cls (tys G) s ∧ Nl s
def Pre (G : Gt) (σ : Sg) (U : State) : Prop := va_P (Gd G) cls (wsO G σ) U.heap ∧ va_K (Gd G) cls (tys G) U ∧ Nl U
def Qx (G : Gt) {α : Type} (rv : α → Option Value) (a : α) (σ' : Sg) : Array Value → State → Outcome → State → Prop := fun _ st oc t => oc = .returned (rv a) ∧ va_P (Gd G) cls (wsO G σ') t.heap ∧ va_F (Af G) st t
def rI (x : Int32) : Option Value := some (.int x)
def rL (x : Int64) : Option Value := some (.long x)
def rV (_ : Unit) : Option Value := none
/-- from here, with these locals, this stack, these numbers: the method answers as E says (if E says anything) -/
def Aw (l : Launch) (G : Gt) (M : Mt) {α : Type} (rv : α → Option Value) (pc : Nat) (L : List (Nat × Value)) (st : List Value) (σ : Sg) (E : Option (α × Sg)) : Prop :=
  ∀ (a : α) (σ' : Sg), E = some (a, σ') → ∀ (p : Program) (e : Env) (s : State) (m : MethodId) (args : Array Value) (below : List Frame) (meth : Method) (c : Code), Cx G M p s m args meth c →
    ∀ (ls : Array Slot) (H : Heap) (locs : List Loc), lv_has ls M.2.2.1 L → va_P (Gd G) cls (wsO G σ) H → va_S (Af G) s.heap H locs → W p l e (rm M.2.2.2.2) s m args below meth c H locs 0 0 (MQ below (Qx G rv a σ') args s 0 0 (Af G)) (F0 m pc ls st)
/-- a method's contract -/
def Ct (l : Launch) (G : Gt) (y : MethodName) (M : Mt) {α : Type} (rv : α → Option Value) (av : List Value) (σ : Sg) (E : Option (α × Sg)) : Prop :=
  ∀ (a : α) (σ' : Sg), E = some (a, σ') → Met l y (wsM y M) (rm M.2.2.2.2) (va_Pc av (Pre G σ)) (Qx G rv a σ') 0 0 (Af G)
theorem Pre.blind (G : Gt) (σ : Sg) (av : List Value) : FrameBlind (va_Pc av (Pre G σ)) := fun a U g mk q => by
  obtain ⟨q0, q1, q2, q3⟩ := q
  exact ⟨q0, q1, va_K.moved (u := U) (U := U.calling g mk a) (Vm.Alike.refl U.vm) q2, Nl.same (s := U) rfl q3⟩
theorem Ct.of {l : Launch} {G : Gt} {y : MethodName} {M : Mt} {α : Type} {rv : α → Option Value} {av : List Value} {σ : Sg} {E : Option (α × Sg)} (hy : plainName y.cls = true) (ho : y.cls = M.1) (hn : (lg_sl av).length ≤ M.2.2.1) (k : Aw l G M rv 0 (lv_args 0 av) [] σ E) : Ct l G y M rv av σ E := by
  intro a σ' hE
  refine Met.ofW (cc := M.2.1) (maxL := M.2.2.1) (ret := M.2.2.2.1) hy rfl ?_
  intro p e s m args below meth c s₁ B hml hv
  obtain ⟨rfl, hP, hK, hN⟩ := hv
  have hts := atoms_spec (ws := wsM y M) B.pre
  have hown : s.vm.findClass M.1 = some m.cls := by rw [← ho]; exact findClass_of_methodNamed B.named
  have hl := lv_entry av (n := M.2.2.1) hn
  rw [lg_entry_eq]
  exact k a σ' hE p e s m _ below meth c ⟨B.exec, B.bytes, hml, B.returns, hown, fun w hw => hts w (List.mem_cons_of_mem _ hw), B.notSynchronized, hK, hN⟩ _ s.heap [] hl hP va_S.rf
section RULES
variable {l : Launch} {G : Gt} {M : Mt} {α : Type} {rv : α → Option Value} {pc : Nat} {L : List (Nat × Value)} {st : List Value} {σ : Sg} {E E1 E2 : Option (α × Sg)}
theorem Aw.no : Aw l G M rv pc L st σ none := fun a σ' h => by cases h
theorem Aw.gd {c : Prop} [Decidable c] (k : c → Aw l G M rv pc L st σ E) : Aw l G M rv pc L st σ (if c then E else none) := by
  by_cases h : c
  · rw [if_pos h]; exact k h
  · rw [if_neg h]; exact Aw.no
theorem Aw.br {c : Prop} [Decidable c] (k1 : c → Aw l G M rv pc L st σ E1) (k2 : ¬ c → Aw l G M rv pc L st σ E2) : Aw l G M rv pc L st σ (if c then E1 else E2) := by
  by_cases h : c
  · rw [if_pos h]; exact k1 h
  · rw [if_neg h]; exact k2 h
theorem Aw.eq (h : E = E1) (k : Aw l G M rv pc L st σ E1) : Aw l G M rv pc L st σ E := h ▸ k
/-- fewer locals -/
theorem Aw.sub {L' : List (Nat × Value)} (ks : List Nat) (h : lv_pick L ks = L') (k : Aw l G M rv pc L' st σ E) : Aw l G M rv pc L st σ E :=
  fun a σ' hE p e s m args below meth c X ls H locs hl hP hS => k a σ' hE p e s m args below meth c X ls H locs (lv_sub hl ks h) hP hS
end RULES
end
section
section RULES2
variable {l : Launch} {G : Gt} {M : Mt} {α : Type} {rv : α → Option Value} {pc q : Nat} {L L' : List (Nat × Value)} {st : List Value} {σ : Sg} {E E1 E2 : Option (α × Sg)}
theorem Aw.iconst {n : Int} {v : Int32} (hv : Int32.ofInt n = v) (hq : pc + 1 = q) (d : decode M.2.1 pc = .ok (.iconst n, 1)) (k : Aw l G M rv q L (.int v :: st) σ E) : Aw l G M rv pc L (st) σ E := by
  subst hq; exact fun a σ' hE p e s m args below meth c X ls H locs hl hP hS => lv_iconst X.1 X.2.1 d hv (k a σ' hE p e s m args below meth c X ls H locs hl hP hS)
theorem Aw.bipush {n : Int} {v : Int32} (hv : (Int8.ofInt n).toInt32 = v) (hq : pc + 2 = q) (d : decode M.2.1 pc = .ok (.bipush n, 2)) (k : Aw l G M rv q L (.int v :: st) σ E) : Aw l G M rv pc L (st) σ E := by
  subst hq; exact fun a σ' hE p e s m args below meth c X ls H locs hl hP hS => lv_bipush X.1 X.2.1 d hv (k a σ' hE p e s m args below meth c X ls H locs hl hP hS)
theorem Aw.sipush {n : Int} {v : Int32} (hv : (Int16.ofInt n).toInt32 = v) (hq : pc + 3 = q) (d : decode M.2.1 pc = .ok (.sipush n, 3)) (k : Aw l G M rv q L (.int v :: st) σ E) : Aw l G M rv pc L (st) σ E := by
  subst hq; exact fun a σ' hE p e s m args below meth c X ls H locs hl hP hS => lv_sipush X.1 X.2.1 d hv (k a σ' hE p e s m args below meth c X ls H locs hl hP hS)
theorem Aw.ldc {i : Nat} {v : Int32} (hw : Cond.constant M.1 i v ∈ gtb) (hq : pc + 2 = q) (d : decode M.2.1 pc = .ok (.ldc i, 2)) (k : Aw l G M rv q L (.int v :: st) σ E) : Aw l G M rv pc L (st) σ E := by
  subst hq; exact fun a σ' hE p e s m args below meth c X ls H locs hl hP hS => lv_ldc X.1 X.2.1 X.2.2.2.2.1 (X.2.2.2.2.2.1 _ hw) d (k a σ' hE p e s m args below meth c X ls H locs hl hP hS)
theorem Aw.ldcw {i : Nat} {v : Int32} (hw : Cond.constant M.1 i v ∈ gtb) (hq : pc + 3 = q) (d : decode M.2.1 pc = .ok (.ldc_w i, 3)) (k : Aw l G M rv q L (.int v :: st) σ E) : Aw l G M rv pc L (st) σ E := by
  subst hq; exact fun a σ' hE p e s m args below meth c X ls H locs hl hP hS => lv_ldcw X.1 X.2.1 X.2.2.2.2.1 (X.2.2.2.2.2.1 _ hw) d (k a σ' hE p e s m args below meth c X ls H locs hl hP hS)
theorem Aw.ldc2 {i : Nat} {v : Int64} (hw : Cond.constantLong M.1 i v ∈ gtb) (hq : pc + 3 = q) (d : decode M.2.1 pc = .ok (.ldc2_w i, 3)) (k : Aw l G M rv q L (.long v :: st) σ E) : Aw l G M rv pc L (st) σ E := by
  subst hq; exact fun a σ' hE p e s m args below meth c X ls H locs hl hP hS => lv_ldc2 X.1 X.2.1 X.2.2.2.2.1 (X.2.2.2.2.2.1 _ hw) d (k a σ' hE p e s m args below meth c X ls H locs hl hP hS)
theorem Aw.iload_n {i : Fin 4} {x : Int32} (j : Nat) (hj : L[j]? = some (i.val, .int x)) (hq : pc + 1 = q) (d : decode M.2.1 pc = .ok (.iload_n i, 1)) (k : Aw l G M rv q L (.int x :: st) σ E) : Aw l G M rv pc L (st) σ E := by
  subst hq; exact fun a σ' hE p e s m args below meth c X ls H locs hl hP hS => lv_iload_n X.1 X.2.1 d rfl (lv_at hl j hj) (k a σ' hE p e s m args below meth c X ls H locs hl hP hS)
theorem Aw.iload {i : Nat} {x : Int32} (j : Nat) (hj : L[j]? = some (i, .int x)) (hq : pc + 2 = q) (d : decode M.2.1 pc = .ok (.iload i, 2)) (k : Aw l G M rv q L (.int x :: st) σ E) : Aw l G M rv pc L (st) σ E := by
  subst hq; exact fun a σ' hE p e s m args below meth c X ls H locs hl hP hS => lv_iload X.1 X.2.1 d (lv_at hl j hj) (k a σ' hE p e s m args below meth c X ls H locs hl hP hS)
theorem Aw.istore_n {i : Fin 4} {x : Int32} (hn : i.val < M.2.2.1) (hl' : (i.val, Value.int x) :: L.filter (fun q => !(q.1 == i.val) && !(q.1 + 1 == i.val && q.2.category == 2)) = L') (hq : pc + 1 = q) (d : decode M.2.1 pc = .ok (.istore_n i, 1)) (k : Aw l G M rv q L' (st) σ E) : Aw l G M rv pc L (.int x :: st) σ E := by
  subst hq; exact fun a σ' hE p e s m args below meth c X ls H locs hl hP hS => lv_istore_n X.1 X.2.1 d rfl hl hn hl' (fun ls hl => k a σ' hE p e s m args below meth c X ls H locs hl hP hS)
theorem Aw.istore {i : Nat} {x : Int32} (hn : i < M.2.2.1) (hl' : (i, Value.int x) :: L.filter (fun q => !(q.1 == i) && !(q.1 + 1 == i && q.2.category == 2)) = L') (hq : pc + 2 = q) (d : decode M.2.1 pc = .ok (.istore i, 2)) (k : Aw l G M rv q L' (st) σ E) : Aw l G M rv pc L (.int x :: st) σ E := by
  subst hq; exact fun a σ' hE p e s m args below meth c X ls H locs hl hP hS => lv_istore X.1 X.2.1 d hl hn hl' (fun ls hl => k a σ' hE p e s m args below meth c X ls H locs hl hP hS)
theorem Aw.lload_n {i : Fin 4} {x : Int64} (j : Nat) (hj : L[j]? = some (i.val, .long x)) (hq : pc + 1 = q) (d : decode M.2.1 pc = .ok (.lload_n i, 1)) (k : Aw l G M rv q L (.long x :: st) σ E) : Aw l G M rv pc L (st) σ E := by
  subst hq; exact fun a σ' hE p e s m args below meth c X ls H locs hl hP hS => lv_lload_n X.1 X.2.1 d rfl (lv_at hl j hj) (k a σ' hE p e s m args below meth c X ls H locs hl hP hS)
theorem Aw.lload {i : Nat} {x : Int64} (j : Nat) (hj : L[j]? = some (i, .long x)) (hq : pc + 2 = q) (d : decode M.2.1 pc = .ok (.lload i, 2)) (k : Aw l G M rv q L (.long x :: st) σ E) : Aw l G M rv pc L (st) σ E := by
  subst hq; exact fun a σ' hE p e s m args below meth c X ls H locs hl hP hS => lv_lload X.1 X.2.1 d (lv_at hl j hj) (k a σ' hE p e s m args below meth c X ls H locs hl hP hS)
theorem Aw.lstore_n {i : Fin 4} {x : Int64} (hn : i.val + 1 < M.2.2.1) (hl' : (i.val, Value.long x) :: L.filter (fun q => !(q.1 == i.val) && (!(q.1 == i.val + 1) && !(q.1 + 1 == i.val && q.2.category == 2))) = L') (hq : pc + 1 = q) (d : decode M.2.1 pc = .ok (.lstore_n i, 1)) (k : Aw l G M rv q L' (st) σ E) : Aw l G M rv pc L (.long x :: st) σ E := by
  subst hq; exact fun a σ' hE p e s m args below meth c X ls H locs hl hP hS => lv_lstore_n X.1 X.2.1 d rfl hl hn hl' (fun ls hl => k a σ' hE p e s m args below meth c X ls H locs hl hP hS)
theorem Aw.lstore {i : Nat} {x : Int64} (hn : i + 1 < M.2.2.1) (hl' : (i, Value.long x) :: L.filter (fun q => !(q.1 == i) && (!(q.1 == i + 1) && !(q.1 + 1 == i && q.2.category == 2))) = L') (hq : pc + 2 = q) (d : decode M.2.1 pc = .ok (.lstore i, 2)) (k : Aw l G M rv q L' (st) σ E) : Aw l G M rv pc L (.long x :: st) σ E := by
  subst hq; exact fun a σ' hE p e s m args below meth c X ls H locs hl hP hS => lv_lstore X.1 X.2.1 d hl hn hl' (fun ls hl => k a σ' hE p e s m args below meth c X ls H locs hl hP hS)
theorem Aw.aload_n {i : Fin 4} {x : Nat} (j : Nat) (hj : L[j]? = some (i.val, .ref x)) (hq : pc + 1 = q) (d : decode M.2.1 pc = .ok (.aload_n i, 1)) (k : Aw l G M rv q L (.ref x :: st) σ E) : Aw l G M rv pc L (st) σ E := by
  subst hq; exact fun a σ' hE p e s m args below meth c X ls H locs hl hP hS => lv_aload_n X.1 X.2.1 d rfl (lv_at hl j hj) (k a σ' hE p e s m args below meth c X ls H locs hl hP hS)
theorem Aw.aload {i : Nat} {x : Nat} (j : Nat) (hj : L[j]? = some (i, .ref x)) (hq : pc + 2 = q) (d : decode M.2.1 pc = .ok (.aload i, 2)) (k : Aw l G M rv q L (.ref x :: st) σ E) : Aw l G M rv pc L (st) σ E := by
  subst hq; exact fun a σ' hE p e s m args below meth c X ls H locs hl hP hS => lv_aload X.1 X.2.1 d (lv_at hl j hj) (k a σ' hE p e s m args below meth c X ls H locs hl hP hS)
theorem Aw.astore_n {i : Fin 4} {x : Nat} (hn : i.val < M.2.2.1) (hl' : (i.val, Value.ref x) :: L.filter (fun q => !(q.1 == i.val) && !(q.1 + 1 == i.val && q.2.category == 2)) = L') (hq : pc + 1 = q) (d : decode M.2.1 pc = .ok (.astore_n i, 1)) (k : Aw l G M rv q L' (st) σ E) : Aw l G M rv pc L (.ref x :: st) σ E := by
  subst hq; exact fun a σ' hE p e s m args below meth c X ls H locs hl hP hS => lv_astore_n X.1 X.2.1 d rfl hl hn hl' (fun ls hl => k a σ' hE p e s m args below meth c X ls H locs hl hP hS)
theorem Aw.astore {i : Nat} {x : Nat} (hn : i < M.2.2.1) (hl' : (i, Value.ref x) :: L.filter (fun q => !(q.1 == i) && !(q.1 + 1 == i && q.2.category == 2)) = L') (hq : pc + 2 = q) (d : decode M.2.1 pc = .ok (.astore i, 2)) (k : Aw l G M rv q L' (st) σ E) : Aw l G M rv pc L (.ref x :: st) σ E := by
  subst hq; exact fun a σ' hE p e s m args below meth c X ls H locs hl hP hS => lv_astore X.1 X.2.1 d hl hn hl' (fun ls hl => k a σ' hE p e s m args below meth c X ls H locs hl hP hS)
theorem Aw.iinc {i : Nat} {n : Int} {x v : Int32} (j : Nat) (hj : L[j]? = some (i, .int x)) (hv : x + Int32.ofInt n = v) (hn : i < M.2.2.1) (hl' : (i, Value.int v) :: L.filter (fun q => !(q.1 == i) && !(q.1 + 1 == i && q.2.category == 2)) = L') (hq : pc + 3 = q) (d : decode M.2.1 pc = .ok (.iinc i n, 3)) (k : Aw l G M rv q L' (st) σ E) : Aw l G M rv pc L (st) σ E := by
  subst hq; exact fun a σ' hE p e s m args below meth c X ls H locs hl hP hS => lv_iinc X.1 X.2.1 d hl hj hv hn hl' (fun ls hl => k a σ' hE p e s m args below meth c X ls H locs hl hP hS)
theorem Aw.iadd {x y : Int32} (hq : pc + 1 = q) (d : decode M.2.1 pc = .ok (.iadd, 1)) (k : Aw l G M rv q L (.int (x + y) :: st) σ E) : Aw l G M rv pc L (.int y :: .int x :: st) σ E := by
  subst hq; exact fun a σ' hE p e s m args below meth c X ls H locs hl hP hS => lv_iadd X.1 X.2.1 d (k a σ' hE p e s m args below meth c X ls H locs hl hP hS)
theorem Aw.isub {x y : Int32} (hq : pc + 1 = q) (d : decode M.2.1 pc = .ok (.isub, 1)) (k : Aw l G M rv q L (.int (x - y) :: st) σ E) : Aw l G M rv pc L (.int y :: .int x :: st) σ E := by
  subst hq; exact fun a σ' hE p e s m args below meth c X ls H locs hl hP hS => lv_isub X.1 X.2.1 d (k a σ' hE p e s m args below meth c X ls H locs hl hP hS)
theorem Aw.imul {x y : Int32} (hq : pc + 1 = q) (d : decode M.2.1 pc = .ok (.imul, 1)) (k : Aw l G M rv q L (.int (x * y) :: st) σ E) : Aw l G M rv pc L (.int y :: .int x :: st) σ E := by
  subst hq; exact fun a σ' hE p e s m args below meth c X ls H locs hl hP hS => lv_imul X.1 X.2.1 d (k a σ' hE p e s m args below meth c X ls H locs hl hP hS)
theorem Aw.iand {x y : Int32} (hq : pc + 1 = q) (d : decode M.2.1 pc = .ok (.iand, 1)) (k : Aw l G M rv q L (.int (x &&& y) :: st) σ E) : Aw l G M rv pc L (.int y :: .int x :: st) σ E := by
  subst hq; exact fun a σ' hE p e s m args below meth c X ls H locs hl hP hS => lv_iand X.1 X.2.1 d (k a σ' hE p e s m args below meth c X ls H locs hl hP hS)
theorem Aw.ior {x y : Int32} (hq : pc + 1 = q) (d : decode M.2.1 pc = .ok (.ior, 1)) (k : Aw l G M rv q L (.int (x ||| y) :: st) σ E) : Aw l G M rv pc L (.int y :: .int x :: st) σ E := by
  subst hq; exact fun a σ' hE p e s m args below meth c X ls H locs hl hP hS => lv_ior X.1 X.2.1 d (k a σ' hE p e s m args below meth c X ls H locs hl hP hS)
theorem Aw.ixor {x y : Int32} (hq : pc + 1 = q) (d : decode M.2.1 pc = .ok (.ixor, 1)) (k : Aw l G M rv q L (.int (x ^^^ y) :: st) σ E) : Aw l G M rv pc L (.int y :: .int x :: st) σ E := by
  subst hq; exact fun a σ' hE p e s m args below meth c X ls H locs hl hP hS => lv_ixor X.1 X.2.1 d (k a σ' hE p e s m args below meth c X ls H locs hl hP hS)
theorem Aw.ishl {x y : Int32} (hq : pc + 1 = q) (d : decode M.2.1 pc = .ok (.ishl, 1)) (k : Aw l G M rv q L (.int (x <<< (y &&& 31)) :: st) σ E) : Aw l G M rv pc L (.int y :: .int x :: st) σ E := by
  subst hq; exact fun a σ' hE p e s m args below meth c X ls H locs hl hP hS => lv_ishl X.1 X.2.1 d (k a σ' hE p e s m args below meth c X ls H locs hl hP hS)
theorem Aw.ishr {x y : Int32} (hq : pc + 1 = q) (d : decode M.2.1 pc = .ok (.ishr, 1)) (k : Aw l G M rv q L (.int (x >>> (y &&& 31)) :: st) σ E) : Aw l G M rv pc L (.int y :: .int x :: st) σ E := by
  subst hq; exact fun a σ' hE p e s m args below meth c X ls H locs hl hP hS => lv_ishr X.1 X.2.1 d (k a σ' hE p e s m args below meth c X ls H locs hl hP hS)
theorem Aw.iushr {x y : Int32} (hq : pc + 1 = q) (d : decode M.2.1 pc = .ok (.iushr, 1)) (k : Aw l G M rv q L (.int ((x.toUInt32 >>> (y.toUInt32 &&& Int32.toUInt32 31)).toInt32) :: st) σ E) : Aw l G M rv pc L (.int y :: .int x :: st) σ E := by
  subst hq; exact fun a σ' hE p e s m args below meth c X ls H locs hl hP hS => lv_iushr X.1 X.2.1 d rfl (k a σ' hE p e s m args below meth c X ls H locs hl hP hS)
theorem Aw.idiv {x y : Int32} (hne : ¬ y = 0) (hq : pc + 1 = q) (d : decode M.2.1 pc = .ok (.idiv, 1)) (k : Aw l G M rv q L (.int (x / y) :: st) σ E) : Aw l G M rv pc L (.int y :: .int x :: st) σ E := by
  subst hq; exact fun a σ' hE p e s m args below meth c X ls H locs hl hP hS => lv_idiv X.1 X.2.1 d hne (k a σ' hE p e s m args below meth c X ls H locs hl hP hS)
theorem Aw.irem {x y : Int32} (hne : ¬ y = 0) (hq : pc + 1 = q) (d : decode M.2.1 pc = .ok (.irem, 1)) (k : Aw l G M rv q L (.int (x - x / y * y) :: st) σ E) : Aw l G M rv pc L (.int y :: .int x :: st) σ E := by
  subst hq; exact fun a σ' hE p e s m args below meth c X ls H locs hl hP hS => lv_irem X.1 X.2.1 d hne (k a σ' hE p e s m args below meth c X ls H locs hl hP hS)
theorem Aw.ladd {x y : Int64} (hq : pc + 1 = q) (d : decode M.2.1 pc = .ok (.ladd, 1)) (k : Aw l G M rv q L (.long (x + y) :: st) σ E) : Aw l G M rv pc L (.long y :: .long x :: st) σ E := by
  subst hq; exact fun a σ' hE p e s m args below meth c X ls H locs hl hP hS => lv_ladd X.1 X.2.1 d (k a σ' hE p e s m args below meth c X ls H locs hl hP hS)
theorem Aw.lmul {x y : Int64} (hq : pc + 1 = q) (d : decode M.2.1 pc = .ok (.lmul, 1)) (k : Aw l G M rv q L (.long (x * y) :: st) σ E) : Aw l G M rv pc L (.long y :: .long x :: st) σ E := by
  subst hq; exact fun a σ' hE p e s m args below meth c X ls H locs hl hP hS => lv_lmul X.1 X.2.1 d (k a σ' hE p e s m args below meth c X ls H locs hl hP hS)
theorem Aw.i2l {x : Int32} (hq : pc + 1 = q) (d : decode M.2.1 pc = .ok (.i2l, 1)) (k : Aw l G M rv q L (.long x.toInt64 :: st) σ E) : Aw l G M rv pc L (.int x :: st) σ E := by
  subst hq; exact fun a σ' hE p e s m args below meth c X ls H locs hl hP hS => lv_i2l X.1 X.2.1 d rfl (k a σ' hE p e s m args below meth c X ls H locs hl hP hS)
theorem Aw.dupi {x : Int32} (hq : pc + 1 = q) (d : decode M.2.1 pc = .ok (.dup, 1)) (k : Aw l G M rv q L (.int x :: .int x :: st) σ E) : Aw l G M rv pc L (.int x :: st) σ E := by
  subst hq; exact fun a σ' hE p e s m args below meth c X ls H locs hl hP hS => lv_dup X.1 X.2.1 d rfl (k a σ' hE p e s m args below meth c X ls H locs hl hP hS)
theorem Aw.dupr {x : Nat} (hq : pc + 1 = q) (d : decode M.2.1 pc = .ok (.dup, 1)) (k : Aw l G M rv q L (.ref x :: .ref x :: st) σ E) : Aw l G M rv pc L (.ref x :: st) σ E := by
  subst hq; exact fun a σ' hE p e s m args below meth c X ls H locs hl hP hS => lv_dup X.1 X.2.1 d rfl (k a σ' hE p e s m args below meth c X ls H locs hl hP hS)
theorem Aw.dup2 {x : Int32} {y : Nat} (hq : pc + 1 = q) (d : decode M.2.1 pc = .ok (.dup2, 1)) (k : Aw l G M rv q L (.int x :: .ref y :: .int x :: .ref y :: st) σ E) : Aw l G M rv pc L (.int x :: .ref y :: st) σ E := by
  subst hq; exact fun a σ' hE p e s m args below meth c X ls H locs hl hP hS => lv_dup2_11 X.1 X.2.1 d rfl rfl (k a σ' hE p e s m args below meth c X ls H locs hl hP hS)
theorem Aw.pop {x : Int32} (hq : pc + 1 = q) (d : decode M.2.1 pc = .ok (.pop, 1)) (k : Aw l G M rv q L (st) σ E) : Aw l G M rv pc L (.int x :: st) σ E := by
  subst hq; exact fun a σ' hE p e s m args below meth c X ls H locs hl hP hS => lv_pop X.1 X.2.1 d rfl (k a σ' hE p e s m args below meth c X ls H locs hl hP hS)
theorem Aw.goto {off : Int} (hq : (pc : Int) + off = (q : Int)) (d : decode M.2.1 pc = .ok (.goto off, 3)) (k : Aw l G M rv q L st σ E) : Aw l G M rv pc L st σ E :=
  fun a σ' hE p e s m args below meth c X ls H locs hl hP hS => lv_goto X.1 X.2.1 d hq (k a σ' hE p e s m args below meth c X ls H locs hl hP hS)
theorem Aw.if_eq {x : Int32} {off : Int} {t : Nat} (hq : pc + 3 = q) (ht : (pc : Int) + off = (t : Int)) (d : decode M.2.1 pc = .ok (.ifCond .eq off, 3)) (kt : x = 0 → Aw l G M rv t L st σ E1) (kf : ¬ (x = 0) → Aw l G M rv q L st σ E2) : Aw l G M rv pc L (.int x :: st) σ (if x = 0 then E1 else E2) := by
  subst hq; refine fun a σ' hE p e s m args below meth c X ls H locs hl hP hS => lv_if_eq X.1 X.2.1 d ht (fun hc => kt hc a σ' ?_ p e s m args below meth c X ls H locs hl hP hS) (fun hc => kf hc a σ' ?_ p e s m args below meth c X ls H locs hl hP hS)
  · rw [if_pos hc] at hE; exact hE
  · rw [if_neg hc] at hE; exact hE
theorem Aw.icmp_eq {x y : Int32} {off : Int} {t : Nat} (hq : pc + 3 = q) (ht : (pc : Int) + off = (t : Int)) (d : decode M.2.1 pc = .ok (.if_icmp .eq off, 3)) (kt : x = y → Aw l G M rv t L st σ E1) (kf : ¬ (x = y) → Aw l G M rv q L st σ E2) : Aw l G M rv pc L (.int y :: .int x :: st) σ (if x = y then E1 else E2) := by
  subst hq; refine fun a σ' hE p e s m args below meth c X ls H locs hl hP hS => lv_icmp_eq X.1 X.2.1 d ht (fun hc => kt hc a σ' ?_ p e s m args below meth c X ls H locs hl hP hS) (fun hc => kf hc a σ' ?_ p e s m args below meth c X ls H locs hl hP hS)
  · rw [if_pos hc] at hE; exact hE
  · rw [if_neg hc] at hE; exact hE
theorem Aw.if_lt {x : Int32} {off : Int} {t : Nat} (hq : pc + 3 = q) (ht : (pc : Int) + off = (t : Int)) (d : decode M.2.1 pc = .ok (.ifCond .lt off, 3)) (kt : x < 0 → Aw l G M rv t L st σ E1) (kf : ¬ (x < 0) → Aw l G M rv q L st σ E2) : Aw l G M rv pc L (.int x :: st) σ (if x < 0 then E1 else E2) := by
  subst hq; refine fun a σ' hE p e s m args below meth c X ls H locs hl hP hS => lv_if_lt X.1 X.2.1 d ht (fun hc => kt hc a σ' ?_ p e s m args below meth c X ls H locs hl hP hS) (fun hc => kf hc a σ' ?_ p e s m args below meth c X ls H locs hl hP hS)
  · rw [if_pos hc] at hE; exact hE
  · rw [if_neg hc] at hE; exact hE
theorem Aw.icmp_lt {x y : Int32} {off : Int} {t : Nat} (hq : pc + 3 = q) (ht : (pc : Int) + off = (t : Int)) (d : decode M.2.1 pc = .ok (.if_icmp .lt off, 3)) (kt : x < y → Aw l G M rv t L st σ E1) (kf : ¬ (x < y) → Aw l G M rv q L st σ E2) : Aw l G M rv pc L (.int y :: .int x :: st) σ (if x < y then E1 else E2) := by
  subst hq; refine fun a σ' hE p e s m args below meth c X ls H locs hl hP hS => lv_icmp_lt X.1 X.2.1 d ht (fun hc => kt hc a σ' ?_ p e s m args below meth c X ls H locs hl hP hS) (fun hc => kf hc a σ' ?_ p e s m args below meth c X ls H locs hl hP hS)
  · rw [if_pos hc] at hE; exact hE
  · rw [if_neg hc] at hE; exact hE
theorem Aw.if_ge {x : Int32} {off : Int} {t : Nat} (hq : pc + 3 = q) (ht : (pc : Int) + off = (t : Int)) (d : decode M.2.1 pc = .ok (.ifCond .ge off, 3)) (kt : 0 ≤ x → Aw l G M rv t L st σ E1) (kf : ¬ (0 ≤ x) → Aw l G M rv q L st σ E2) : Aw l G M rv pc L (.int x :: st) σ (if 0 ≤ x then E1 else E2) := by
  subst hq; refine fun a σ' hE p e s m args below meth c X ls H locs hl hP hS => lv_if_ge X.1 X.2.1 d ht (fun hc => kt hc a σ' ?_ p e s m args below meth c X ls H locs hl hP hS) (fun hc => kf hc a σ' ?_ p e s m args below meth c X ls H locs hl hP hS)
  · rw [if_pos hc] at hE; exact hE
  · rw [if_neg hc] at hE; exact hE
theorem Aw.icmp_ge {x y : Int32} {off : Int} {t : Nat} (hq : pc + 3 = q) (ht : (pc : Int) + off = (t : Int)) (d : decode M.2.1 pc = .ok (.if_icmp .ge off, 3)) (kt : y ≤ x → Aw l G M rv t L st σ E1) (kf : ¬ (y ≤ x) → Aw l G M rv q L st σ E2) : Aw l G M rv pc L (.int y :: .int x :: st) σ (if y ≤ x then E1 else E2) := by
  subst hq; refine fun a σ' hE p e s m args below meth c X ls H locs hl hP hS => lv_icmp_ge X.1 X.2.1 d ht (fun hc => kt hc a σ' ?_ p e s m args below meth c X ls H locs hl hP hS) (fun hc => kf hc a σ' ?_ p e s m args below meth c X ls H locs hl hP hS)
  · rw [if_pos hc] at hE; exact hE
  · rw [if_neg hc] at hE; exact hE
theorem Aw.if_gt {x : Int32} {off : Int} {t : Nat} (hq : pc + 3 = q) (ht : (pc : Int) + off = (t : Int)) (d : decode M.2.1 pc = .ok (.ifCond .gt off, 3)) (kt : 0 < x → Aw l G M rv t L st σ E1) (kf : ¬ (0 < x) → Aw l G M rv q L st σ E2) : Aw l G M rv pc L (.int x :: st) σ (if 0 < x then E1 else E2) := by
  subst hq; refine fun a σ' hE p e s m args below meth c X ls H locs hl hP hS => lv_if_gt X.1 X.2.1 d ht (fun hc => kt hc a σ' ?_ p e s m args below meth c X ls H locs hl hP hS) (fun hc => kf hc a σ' ?_ p e s m args below meth c X ls H locs hl hP hS)
  · rw [if_pos hc] at hE; exact hE
  · rw [if_neg hc] at hE; exact hE
theorem Aw.icmp_gt {x y : Int32} {off : Int} {t : Nat} (hq : pc + 3 = q) (ht : (pc : Int) + off = (t : Int)) (d : decode M.2.1 pc = .ok (.if_icmp .gt off, 3)) (kt : y < x → Aw l G M rv t L st σ E1) (kf : ¬ (y < x) → Aw l G M rv q L st σ E2) : Aw l G M rv pc L (.int y :: .int x :: st) σ (if y < x then E1 else E2) := by
  subst hq; refine fun a σ' hE p e s m args below meth c X ls H locs hl hP hS => lv_icmp_gt X.1 X.2.1 d ht (fun hc => kt hc a σ' ?_ p e s m args below meth c X ls H locs hl hP hS) (fun hc => kf hc a σ' ?_ p e s m args below meth c X ls H locs hl hP hS)
  · rw [if_pos hc] at hE; exact hE
  · rw [if_neg hc] at hE; exact hE
theorem Aw.if_le {x : Int32} {off : Int} {t : Nat} (hq : pc + 3 = q) (ht : (pc : Int) + off = (t : Int)) (d : decode M.2.1 pc = .ok (.ifCond .le off, 3)) (kt : x ≤ 0 → Aw l G M rv t L st σ E1) (kf : ¬ (x ≤ 0) → Aw l G M rv q L st σ E2) : Aw l G M rv pc L (.int x :: st) σ (if x ≤ 0 then E1 else E2) := by
  subst hq; refine fun a σ' hE p e s m args below meth c X ls H locs hl hP hS => lv_if_le X.1 X.2.1 d ht (fun hc => kt hc a σ' ?_ p e s m args below meth c X ls H locs hl hP hS) (fun hc => kf hc a σ' ?_ p e s m args below meth c X ls H locs hl hP hS)
  · rw [if_pos hc] at hE; exact hE
  · rw [if_neg hc] at hE; exact hE
theorem Aw.icmp_le {x y : Int32} {off : Int} {t : Nat} (hq : pc + 3 = q) (ht : (pc : Int) + off = (t : Int)) (d : decode M.2.1 pc = .ok (.if_icmp .le off, 3)) (kt : x ≤ y → Aw l G M rv t L st σ E1) (kf : ¬ (x ≤ y) → Aw l G M rv q L st σ E2) : Aw l G M rv pc L (.int y :: .int x :: st) σ (if x ≤ y then E1 else E2) := by
  subst hq; refine fun a σ' hE p e s m args below meth c X ls H locs hl hP hS => lv_icmp_le X.1 X.2.1 d ht (fun hc => kt hc a σ' ?_ p e s m args below meth c X ls H locs hl hP hS) (fun hc => kf hc a σ' ?_ p e s m args below meth c X ls H locs hl hP hS)
  · rw [if_pos hc] at hE; exact hE
  · rw [if_neg hc] at hE; exact hE
theorem Aw.if_ne {x : Int32} {off : Int} {t : Nat} (hq : pc + 3 = q) (ht : (pc : Int) + off = (t : Int)) (d : decode M.2.1 pc = .ok (.ifCond .ne off, 3)) (kf : x = 0 → Aw l G M rv q L st σ E1) (kt : ¬ (x = 0) → Aw l G M rv t L st σ E2) : Aw l G M rv pc L (.int x :: st) σ (if x = 0 then E1 else E2) := by
  subst hq; refine fun a σ' hE p e s m args below meth c X ls H locs hl hP hS => lv_if_ne X.1 X.2.1 d ht (fun hc => kt hc a σ' ?_ p e s m args below meth c X ls H locs hl hP hS) (fun hc => kf hc a σ' ?_ p e s m args below meth c X ls H locs hl hP hS)
  · rw [if_neg hc] at hE; exact hE
  · rw [if_pos hc] at hE; exact hE
theorem Aw.icmp_ne {x y : Int32} {off : Int} {t : Nat} (hq : pc + 3 = q) (ht : (pc : Int) + off = (t : Int)) (d : decode M.2.1 pc = .ok (.if_icmp .ne off, 3)) (kf : x = y → Aw l G M rv q L st σ E1) (kt : ¬ (x = y) → Aw l G M rv t L st σ E2) : Aw l G M rv pc L (.int y :: .int x :: st) σ (if x = y then E1 else E2) := by
  subst hq; refine fun a σ' hE p e s m args below meth c X ls H locs hl hP hS => lv_icmp_ne X.1 X.2.1 d ht (fun hc => kt hc a σ' ?_ p e s m args below meth c X ls H locs hl hP hS) (fun hc => kf hc a σ' ?_ p e s m args below meth c X ls H locs hl hP hS)
  · rw [if_neg hc] at hE; exact hE
  · rw [if_pos hc] at hE; exact hE
theorem Aw.tsIn {x : Int32} {dflt lo hi off : Int} {offs : Array Int} {len t : Nat} (d : decode M.2.1 pc = .ok (.tableswitch dflt lo hi offs, len)) (v : Int32) (hx : x = v) (h1 : ¬ v.toInt < lo) (h2 : ¬ hi < v.toInt) (ho : offs[(v.toInt - lo).toNat]? = some off) (ht : (pc : Int) + off = (t : Int)) (k : Aw l G M rv t L st σ E) : Aw l G M rv pc L (.int x :: st) σ E := by
  subst hx; exact fun a σ' hE p e s m args below meth c X ls H locs hl hP hS => lv_tableIn X.1 X.2.1 d h1 h2 ho ht (k a σ' hE p e s m args below meth c X ls H locs hl hP hS)
theorem Aw.tsOut {x : Int32} {dflt lo hi : Int} {offs : Array Int} {len t : Nat} (d : decode M.2.1 pc = .ok (.tableswitch dflt lo hi offs, len)) (h : x.toInt < lo ∨ hi < x.toInt) (ht : (pc : Int) + dflt = (t : Int)) (k : Aw l G M rv t L st σ E) : Aw l G M rv pc L (.int x :: st) σ E :=
  fun a σ' hE p e s m args below meth c X ls H locs hl hP hS => lv_tableOut X.1 X.2.1 d h ht (k a σ' hE p e s m args below meth c X ls H locs hl hP hS)
theorem Aw.lsw {x : Int32} {dflt off : Int} {ps : Array (Int × Int)} {len t : Nat} (d : decode M.2.1 pc = .ok (.lookupswitch dflt ps, len)) (hp : (ps.toList.zip (ps.toList.drop 1)).all (fun (a, next) => a.1 < next.1) = true) (ho : Op.lookupswitch.offset ps.toList dflt x.toInt = off) (ht : (pc : Int) + off = (t : Int)) (k : Aw l G M rv t L st σ E) : Aw l G M rv pc L (.int x :: st) σ E :=
  fun a σ' hE p e s m args below meth c X ls H locs hl hP hS => lv_lookup X.1 X.2.1 d hp ho ht (k a σ' hE p e s m args below meth c X ls H locs hl hP hS)
end RULES2
/-- a field's link: the class ci's slot j by own's pool number i -/
def FL (own : String) (i ci j : Nat) : Prop := ∃ r : vw_C, cls[ci]? = some r ∧ j < r.2.2 ∧ (r.2.1 j).1 = r.1 ∧ Cond.fieldLink own i r.1 (r.2.1 j).2.1 (r.2.1 j).2.2.1 ∈ gtb ∧ ∀ w ∈ u_ws r.1 r.2.1 r.2.2, w ∈ gtb
/-- a field that may be written: not final, of a type -/
def FP (ci j : Nat) (ty : FieldType) : Prop := ∃ (r : vw_C) (t : Nat → FieldType), cls[ci]? = some r ∧ (r.2.1 j).2.2.2 = false ∧ parseFieldDescriptor (r.2.1 j).2.2.1 = some ty ∧ (∀ k, k < r.2.2 → parseFieldDescriptor (r.2.1 k).2.2.1 = some (t k)) ∧ ∀ a, a < r.2.2 → ∀ b, b < r.2.2 → a ≠ b → (r.2.1 a).2.1 ≠ (r.2.1 b).2.1
def lnc (ci : Nat) : Nat := match ci with | 0 => 3 | 1 => 3 | 2 => 15 | 3 => 9 | 4 => 8 | 5 => 5 | _ => 14
theorem ln_obj {k ci : Nat} (h : kd k = ci) (hc : ci ≤ 6) : ln k = lnc ci := by
  have hk : k < 307 := kd_lt (by omega)
  subst h
  have : ∀ k, k < 307 → kd k ≤ 6 → ln k = lnc (kd k) := by decide +kernel
  exact this k hk hc
theorem lnc_cls {ci : Nat} {r : vw_C} (h : cls[ci]? = some r) (hc : ci ≤ 6) : r.2.2 = lnc ci := by
  match ci, h with
  | 0, h => cases h; rfl
  | 1, h => cases h; rfl
  | 2, h => cases h; rfl
  | 3, h => cases h; rfl
  | 4, h => cases h; rfl
  | 5, h => cases h; rfl
  | 6, h => cases h; rfl
/-- in a row's bounds -/
abbrev inb (i : Int32) (n : Nat) : Prop := 0 ≤ i.toInt ∧ i.toInt < (n : Int)
abbrev ix (i : Int32) : Nat := i.toNatClampNeg
section RULES3
variable {l : Launch} {G : Gt} {M : Mt} {α : Type} {rv : α → Option Value} {pc q : Nat} {L L' : List (Nat × Value)} {st : List Value} {σ : Sg} {E E1 E2 : Option (α × Sg)}
theorem Aw.getI {i ci j k0 : Nat} (f : FL M.1 i ci j) (hc : ci ≤ 6) (hi : irf ci j = false) (hk : kd k0 = ci) (hq : pc + 3 = q) (d : decode M.2.1 pc = .ok (.getfield i, 3)) (k : Aw l G M rv q L (.int (σ k0 j) :: st) σ E) : Aw l G M rv pc L (.ref (Gb G + k0) :: st) σ E := by
  subst hq
  obtain ⟨r, f1, f2, f3, f4, f5⟩ := f
  refine fun a σ' hE p e s m args below meth c X ls H locs hl hP hS =>  ?_
  have hat := wsO_at G σ (k := k0) (kd_lt (by omega))
  rw [ce_obj G σ hk hc] at hat
  exact va_get (D := Gd G) (C := r.1) (T := r.2.1) (N := r.2.2) X.1 X.2.1 X.2.2.2.2.2.1 f5 X.2.2.2.2.1 X.2.2.2.2.2.2.2.1 hP k0 hat f1 j f2 (X.2.2.2.2.2.1 _ f4) (fun x hx => by rw [f3] at hx; exact hx) (by rw [List.getElem?_map, List.getElem?_range (by rw [ln_obj hk hc, ← lnc_cls f1 hc]; exact f2)]; show some (ceF G σ k0 j) = _; rw [ceF, hk, hi, if_neg (by decide)]) d (k a σ' hE p e s m args below meth c X ls H locs hl hP hS)
theorem Aw.getR {i ci j k0 : Nat} (f : FL M.1 i ci j) (hc : ci ≤ 6) (hi : irf ci j = true) (hk : kd k0 = ci) (hq : pc + 3 = q) (d : decode M.2.1 pc = .ok (.getfield i, 3)) (k : Aw l G M rv q L (.ref (Gb G + rf k0 j) :: st) σ E) : Aw l G M rv pc L (.ref (Gb G + k0) :: st) σ E := by
  subst hq
  obtain ⟨r, f1, f2, f3, f4, f5⟩ := f
  refine fun a σ' hE p e s m args below meth c X ls H locs hl hP hS =>  ?_
  have hat := wsO_at G σ (k := k0) (kd_lt (by omega))
  rw [ce_obj G σ hk hc] at hat
  exact va_get (D := Gd G) (C := r.1) (T := r.2.1) (N := r.2.2) X.1 X.2.1 X.2.2.2.2.2.1 f5 X.2.2.2.2.1 X.2.2.2.2.2.2.2.1 hP k0 hat f1 j f2 (X.2.2.2.2.2.1 _ f4) (fun x hx => by rw [f3] at hx; exact hx) (by rw [List.getElem?_map, List.getElem?_range (by rw [ln_obj hk hc, ← lnc_cls f1 hc]; exact f2)]; show some (ceF G σ k0 j) = _; rw [ceF, hk, hi, if_pos rfl]) d (k a σ' hE p e s m args below meth c X ls H locs hl hP hS)
theorem Aw.putI {i ci j k0 : Nat} {ty : FieldType} {v : Int32} (f : FL M.1 i ci j) (g : FP ci j ty) (hn : narrow ty (.int v) = .int v) (hft : fits ty (.int v) = true) (hc : ci ≤ 6) (hi : irf ci j = false) (hk : kd k0 = ci) (hq : pc + 3 = q) (d : decode M.2.1 pc = .ok (.putfield i, 3)) (k : Aw l G M rv q L st (up σ k0 j v) E) : Aw l G M rv pc L (.int v :: .ref (Gb G + k0) :: st) σ E := by
  subst hq
  obtain ⟨r, f1, f2, f3, f4, f5⟩ := f
  obtain ⟨r', t, g1, g2, g3, g4, g5⟩ := g
  cases f1.symm.trans g1
  refine fun a σ' hE p e s m args below meth c X ls H locs hl hP hS =>  ?_
  have hlt : k0 < 307 := kd_lt (by omega)
  have hat := wsO_at G σ hlt
  rw [ce_obj G σ hk hc] at hat
  refine va_put (D := Gd G) (C := r.1) (T := r.2.1) (N := r.2.2) X.1 X.2.1 X.2.2.2.2.2.1 f5 t g4 g5 X.2.2.2.2.1 X.2.2.2.2.2.2.2.1 hP (wsO_D G σ) hS k0 hat f1 j f2 (X.2.2.2.2.2.1 _ f4) (fun x hx => by rw [f3] at hx; exact hx) g2 g3 hn hft (by rw [List.length_map, List.length_range, ln_obj hk hc, ← lnc_cls f1 hc]; exact f2) d (fun H locs hP hD hS => ?_)
  rw [wsO_set G σ (up σ k0 j v) hlt (by rw [ce_obj G _ hk hc, ceF_set G σ v (by rw [hk]; exact hi)]) (fun j' hj => up_o σ k0 j v hj)] at hP
  exact (k a σ' hE p e s m args below meth c X ls H locs hl hP hS)
theorem inb_in {i : Int32} {n : Nat} (h : inb i n) : vp_in i n := vp_in_iff.mpr h
theorem Aw.iald {k0 n : Nat} {i : Int32} (hk : kd k0 = 7) (hn : ln k0 = n) (hq : pc + 1 = q) (d : decode M.2.1 pc = .ok (.iaload, 1)) (k : inb i n → Aw l G M rv q L (.int (σ k0 (ix i)) :: st) σ E) : Aw l G M rv pc L (.int i :: .ref (Gb G + k0) :: st) σ (if inb i n then E else none) := by
  subst hq; subst hn
  refine Aw.gd (fun hb => ?_)
  have k := k hb
  refine fun a σ' hE p e s m args below meth c X ls H locs hl hP hS =>  ?_
  have hat := wsO_at G σ (k := k0) (kd_lt (by omega))
  rw [ce_int G σ hk] at hat
  exact va_iald (D := Gd G) X.1 X.2.1 X.2.2.2.2.2.2.2.1 hP k0 0 hat rfl (inb_in hb) d (k a σ' hE p e s m args below meth c X ls H locs hl hP hS)
theorem Aw.iast {k0 n : Nat} {i x : Int32} (hk : kd k0 = 7) (hn : ln k0 = n) (hq : pc + 1 = q) (d : decode M.2.1 pc = .ok (.iastore, 1)) (k : inb i n → Aw l G M rv q L st (up σ k0 (ix i) x) E) : Aw l G M rv pc L (.int x :: .int i :: .ref (Gb G + k0) :: st) σ (if inb i n then E else none) := by
  subst hq; subst hn
  refine Aw.gd (fun hb => ?_)
  have k := k hb
  refine fun a σ' hE p e s m args below meth c X ls H locs hl hP hS =>  ?_
  have hlt : k0 < 307 := kd_lt (by omega)
  have hat := wsO_at G σ hlt
  rw [ce_int G σ hk] at hat
  refine va_iast (D := Gd G) X.1 X.2.1 X.2.2.2.2.2.2.2.1 hP (wsO_D G σ) hS k0 0 hat rfl (inb_in hb) d (fun H locs hP hD hS => ?_)
  rw [wsO_set G σ (up σ k0 (ix i) x) hlt (by rw [ce_int G _ hk, up_s]) (fun j' hj => up_o σ k0 (ix i) x hj)] at hP
  exact (k a σ' hE p e s m args below meth c X ls H locs hl hP hS)
theorem Aw.aald {k0 n t : Nat} {i : Int32} (hk : kd k0 = t) (ht : 8 ≤ t ∧ t ≤ 10) (hn : ln k0 = n) (hq : pc + 1 = q) (d : decode M.2.1 pc = .ok (.aaload, 1)) (k : inb i n → Aw l G M rv q L (.ref (Gb G + rf k0 (ix i)) :: st) σ E) : Aw l G M rv pc L (.int i :: .ref (Gb G + k0) :: st) σ (if inb i n then E else none) := by
  subst hq; subst hn
  refine Aw.gd (fun hb => ?_)
  have k := k hb
  refine fun a σ' hE p e s m args below meth c X ls H locs hl hP hS =>  ?_
  have hlt : k0 < 307 := kd_lt (by omega)
  have hat := wsO_at G σ hlt
  rw [ce_ref G σ hk ht.1] at hat
  have hin := inb_in hb
  have hlt2 : i.toNatClampNeg < ln k0 := Nat.not_le.mp fun q => hin (Or.inr q)
  obtain ⟨t0, ty, h1, h2⟩ : ∃ (t0 : Nat) (ty : FieldType), (tys G)[t0]? = some (G.2.2.2.2 t, ty) ∧ ty.isReference = true := by
    rcases (show t = 8 ∨ t = 9 ∨ t = 10 by omega) with rfl | rfl | rfl
    · exact ⟨1, _, rfl, rfl⟩
    · exact ⟨2, _, rfl, rfl⟩
    · exact ⟨3, _, rfl, rfl⟩
  exact W.aald (v := .ref (Gb G + rf k0 i.toNatClampNeg)) (ty := ty) X.1 X.2.1 (hP k0 _ hat) ((X.2.2.2.2.2.2.2.1.2 t0 _ h1).1 _ (fun j => va_rf (some (Gb G + rf k0 j)))) h2 (fun q => by cases q) (by show ¬ (i < 0 ∨ (arrV _ _ _).slots.size ≤ _); rw [arrV_size]; exact hin) (by show (arrV _ _ _).slots[_]? = _; rw [arrV_read _ _ hlt2]; rfl) rfl rfl d (k a σ' hE p e s m args below meth c X ls H locs hl hP hS)
theorem Aw.alen {k0 : Nat} (hk : kd k0 = 7) (hq : pc + 1 = q) (d : decode M.2.1 pc = .ok (.arraylength, 1)) (k : Aw l G M rv q L (.int (nI (ln k0)) :: st) σ E) : Aw l G M rv pc L (.ref (Gb G + k0) :: st) σ E := by
  subst hq
  refine fun a σ' hE p e s m args below meth c X ls H locs hl hP hS =>  ?_
  have hat := wsO_at G σ (k := k0) (kd_lt (by omega))
  rw [ce_int G σ hk] at hat
  exact va_alen (D := Gd G) X.1 X.2.1 X.2.2.2.2.2.2.2.1 hP k0 0 hat (ty := .int) rfl rfl d (k a σ' hE p e s m args below meth c X ls H locs hl hP hS)
end RULES3
end
section
/-- a call's answer handed on -/
def cb {α β : Type} (o : Option (α × Sg)) (K : α → Sg → Option (β × Sg)) : Option (β × Sg) := match o with
  | some (a, σ) => K a σ
  | none => none
theorem cb_some {α β : Type} (a : α) (σ : Sg) (K : α → Sg → Option (β × Sg)) : cb (some (a, σ)) K = K a σ := rfl
/-- a value gets a name -/
def bn {β γ : Type} (x : γ) (K : γ → β) : β := K x
theorem gtb_in {ws : List Cond} (h : ∀ w ∈ ws, w ∈ gtb) : GoodIn gtb ws := fun w hw => gtb_good w (h w hw)
def NM (y : MethodName) (n : Nat) : Prop := y.cls ≠ "java/lang/invoke/MethodHandle" ∧ y.cls ≠ "java/lang/invoke/VarHandle" ∧ (parseMethodDescriptor y.desc).map (fun d => d.parameters.length) = some n
/-- the words of a call on an object of class ci -/
def CV (own : String) (i ci : Nat) (y : MethodName) (M' : Mt) (n : Nat) : Prop := ∃ r : vw_C, cls[ci]? = some r ∧ y.cls = r.1 ∧ Cond.methodLink own i y ∈ gtb ∧ Cond.instanceMethod y ∈ gtb ∧ Cond.selects r.1 y y ∈ gtb ∧ Cond.initialized r.1 ∈ gtb ∧ Cond.code y M'.2.1 M'.2.2.1 M'.2.2.2.1 ∈ gtb ∧ NM y n
/-- the words of a call of a static method -/
def CS (own : String) (i : Nat) (y : MethodName) (M' : Mt) (n : Nat) : Prop := Cond.methodLink own i y ∈ gtb ∧ Cond.static y ∈ gtb ∧ Cond.initialized y.cls ∈ gtb ∧ Cond.code y M'.2.1 M'.2.2.1 M'.2.2.2.1 ∈ gtb ∧ NM y n
/-- the same, of a nest mate -/
def CN (own : String) (i : Nat) (y : MethodName) (host : String) (M' : Mt) (n : Nat) : Prop := (own, i, y, host) ∈ nest ∧ Cond.static y ∈ gtb ∧ Cond.initialized y.cls ∈ gtb ∧ Cond.code y M'.2.1 M'.2.2.1 M'.2.2.2.1 ∈ gtb ∧ NM y n
theorem rm_ok {M M' : Mt} (hd : M'.2.2.2.2 + 1 ≤ M.2.2.2.2) (hl : M'.2.2.1 ≤ 45) : (rm M'.2.2.2.2).frames + 1 ≤ (rm M.2.2.2.2).frames ∧ 8 + (M'.2.2.1 + 11) + (rm M'.2.2.2.2).locals ≤ (rm M.2.2.2.2).locals := ⟨hd, by show 8 + (M'.2.2.1 + 11) + 64 * M'.2.2.2.2 ≤ 64 * M.2.2.2.2; omega⟩
section CALLS
variable {l : Launch} {G : Gt} {M : Mt} {α β : Type} {rv : α → Option Value} {rv' : β → Option Value} {pc q : Nat} {L L' : List (Nat × Value)} {st : List Value} {σ : Sg} {E E1 E2 : Option (α × Sg)}
theorem Aw.bs {K : Sg → Option (α × Sg)} (k : ∀ τ, Aw l G M rv pc L st τ (K τ)) : Aw l G M rv pc L st σ (bn σ K) := k σ
theorem Aw.bl {x : Int64} {K : Int64 → Option (α × Sg)} (k : ∀ y, Aw l G M rv pc L (.long y :: st) σ (K y)) : Aw l G M rv pc L (.long x :: st) σ (bn x K) := k x
/-- the top of the stack gets a name -/
theorem Aw.bi {x : Int32} {K : Int32 → Option (α × Sg)} (k : ∀ y, Aw l G M rv pc L (.int y :: st) σ (K y)) : Aw l G M rv pc L (.int x :: st) σ (bn x K) := k x
theorem Aw.iret {v : Int32} (hr : M.2.2.2.1 = some .int) (d : decode M.2.1 pc = .ok (.ireturn, 1)) : Aw l G M rI pc L [.int v] σ (some (v, σ)) := by
  intro a σ' hE p e s m args below meth c X ls H locs hl hP hS
  cases hE
  exact W.iret X.1 X.2.1 (X.2.2.2.1.trans hr) (fun t ht hW => ⟨rfl, by rw [ht]; exact hP, hS.F ht⟩) hS.2.2 d X.2.2.2.2.2.2.1
theorem Aw.zret {v : Int32} (hr : M.2.2.2.1 = some .boolean) (hn : narrow .boolean (.int v) = .int v) (d : decode M.2.1 pc = .ok (.ireturn, 1)) : Aw l G M rI pc L [.int v] σ (some (v, σ)) := by
  intro a σ' hE p e s m args below meth c X ls H locs hl hP hS
  cases hE
  exact W.zret X.1 X.2.1 (X.2.2.2.1.trans hr) hn (fun t ht hW => ⟨rfl, by rw [ht]; exact hP, hS.F ht⟩) hS.2.2 d X.2.2.2.2.2.2.1
theorem Aw.zretG {v : Int32} (hr : M.2.2.2.1 = some .boolean) (d : decode M.2.1 pc = .ok (.ireturn, 1)) : Aw l G M rI pc L [.int v] σ (if v = 0 ∨ v = 1 then some (v, σ) else none) :=
  Aw.gd (fun h => Aw.zret hr (by rcases h with rfl | rfl <;> rfl) d)
theorem Aw.lret {v : Int64} (hr : M.2.2.2.1 = some .long) (d : decode M.2.1 pc = .ok (.lreturn, 1)) : Aw l G M rL pc L [.long v] σ (some (v, σ)) := by
  intro a σ' hE p e s m args below meth c X ls H locs hl hP hS
  cases hE
  exact W.lret X.1 X.2.1 (X.2.2.2.1.trans hr) (fun t ht hW => ⟨rfl, by rw [ht]; exact hP, hS.F ht⟩) hS.2.2 d X.2.2.2.2.2.2.1
theorem Aw.vret (hr : M.2.2.2.1 = none) (d : decode M.2.1 pc = .ok (.return_, 1)) : Aw l G M rV pc L [] σ (some ((), σ)) := by
  intro a σ' hE p e s m args below meth c X ls H locs hl hP hS
  cases hE
  exact W.vret X.1 X.2.1 (X.2.2.2.1.trans hr) (fun t ht hW => ⟨rfl, by rw [ht]; exact hP, hS.F ht⟩) hS.2.2 d X.2.2.2.2.2.2.1
theorem run_go {p : Program} {e : Env} {R : Room} {s : State} {m : MethodId} {args : Array Value} {below : List Frame} {meth : Method} {c : Code} {H : Heap} {locs : List Loc} {Q : State → Prop} {ls : Array Slot} {st0 rest : List Value} {a : β} {σ1 : Sg} {arr : Array Value} {cells slots : Nat}
    (hr : va_Run p l e R s m args below meth c H locs cells slots 0 0 (F0 m pc ls st0) rest (Qx G rv' a σ1 arr) (Af G)) (hS : va_S (Af G) s.heap H locs)
    (kk : ∀ (H1 : Heap) (locs1 : List Loc), va_P (Gd G) cls (wsO G σ1) H1 → va_S (Af G) s.heap H1 locs1 → W p l e R s m args below meth c H1 locs1 cells slots Q (F0 m (pc + 3) ls ((rv' a).toList ++ rest))) : W p l e R s m args below meth c H locs cells slots Q (F0 m pc ls st0) := by
  intro T hT X
  obtain ⟨v, st₀, t, T', L, h0, X', hL, e1, e2, ⟨hv, hp, hz, hk⟩, st⟩ := hr T hT X
  cases hv
  rw [h0] at hz hk
  obtain ⟨t2, a1, b1⟩ := kk T'.heap (locs ++ L) (by rw [e1]; exact hp)
    ⟨Nat.le_trans hS.1 (by rw [e1]; exact hz), fun q h1 h2 => by rw [e1, hk q (Nat.lt_of_lt_of_le h1 hS.1) h2]; exact hS.2.1 q h1 h2, fun q hq => by
      rcases List.mem_append.mp hq with h | h
      · exact hS.2.2 q h
      · exact hL q h⟩ T' rfl X'
  exact ⟨t2, st t2 a1, b1⟩
theorem Aw.callV {i ci n k : Nat} {y : MethodName} {M' : Mt} {As rest : List Value} {E0 : Option (β × Sg)} {K : β → Sg → Option (α × Sg)} (hv : CV M.1 i ci y M' n) (hc : ci ≤ 6) (hk : kd k = ci) (hct : Ct l G y M' rv' (.ref (Gb G + k) :: As) σ E0) (hn : As.length = n) (hs : st = As.reverse ++ .ref (Gb G + k) :: rest) (hw : (rest.map fun v => v.category).sum ≤ 8) (hd : M'.2.2.2.2 + 1 ≤ M.2.2.2.2) (hl : M'.2.2.1 ≤ 45)
    (hq : pc + 3 = q) (d : decode M.2.1 pc = .ok (.invokevirtual i, 3)) (kk : ∀ a σ1, E0 = some (a, σ1) → Aw l G M rv q L ((rv' a).toList ++ rest) σ1 (K a σ1)) : Aw l G M rv pc L st σ (cb E0 K) := by
  subst hq
  cases hE0 : E0 with
  | none => exact Aw.no
  | some x =>
    obtain ⟨a0, σ1⟩ := x
    have kk := kk a0 σ1 hE0
    obtain ⟨r, c1, c2, c3, c4, c5, c6, c7, c8⟩ := hv
    intro a σ' hE p e s m args below meth c X ls H locs hl' hP hS
    have hat := wsO_at G σ (k := k) (kd_lt (by omega))
    rw [ce_obj G σ hk hc] at hat
    refine run_go (va_runV (Ts := gtb) (As := As) (rest := rest) (C := r.1) ⟨X.1, X.2.1, X.2.2.1, X.2.2.2.2.1, X.2.2.2.2.2.1⟩ (hct a0 σ1 hE0) (cwV n X.2.2.2.2.2.1 (gtb_in (fun w hw => ?_)) rfl rfl rfl ⟨c2, c8.1, c8.2.1, c8.2.2⟩ (rm_ok hd hl)) ⟨Pre.blind G σ _, va_recv X.2.2.2.2.2.2.2.1 hP c1 hat, fun U hU hW => ⟨rfl, by rw [hU]; exact hP, va_K.moved hW.alike X.2.2.2.2.2.2.2.1, X.2.2.2.2.2.2.2.2.warm hW⟩⟩ rfl hn hl'.1 hs (lv_room hw) d ⟨Nat.le_refl _, Nat.le_refl _⟩) hS (fun H1 locs1 hP1 hS1 => kk a σ' hE p e s m args below meth c X ls H1 locs1 hl' hP1 hS1)
    rcases List.mem_append.mp hw with h | h
    · rcases List.mem_cons.mp h with rfl | h
      · exact c3
      rcases List.mem_cons.mp h with rfl | h
      · exact c4
      rcases List.mem_cons.mp h with rfl | h
      · exact c5
      rcases List.mem_cons.mp h with rfl | h
      · exact c6
      · cases h
    · rcases List.mem_cons.mp h with rfl | h
      · exact c7
      · exact h
theorem Aw.callS {i n : Nat} {y : MethodName} {M' : Mt} {As rest : List Value} {E0 : Option (β × Sg)} {K : β → Sg → Option (α × Sg)} (hv : CS M.1 i y M' n) (hct : Ct l G y M' rv' As σ E0) (hn : As.length = n) (hs : st = As.reverse ++ rest) (hw : (rest.map fun v => v.category).sum ≤ 8) (hd : M'.2.2.2.2 + 1 ≤ M.2.2.2.2) (hl : M'.2.2.1 ≤ 45)
    (hq : pc + 3 = q) (d : decode M.2.1 pc = .ok (.invokestatic i, 3)) (kk : ∀ a σ1, E0 = some (a, σ1) → Aw l G M rv q L ((rv' a).toList ++ rest) σ1 (K a σ1)) : Aw l G M rv pc L st σ (cb E0 K) := by
  subst hq
  cases hE0 : E0 with
  | none => exact Aw.no
  | some x =>
    obtain ⟨a0, σ1⟩ := x
    have kk := kk a0 σ1 hE0
    obtain ⟨c3, c4, c6, c7, c8⟩ := hv
    intro a σ' hE p e s m args below meth c X ls H locs hl' hP hS
    refine run_go (va_runS (Ts := gtb) (As := As) (rest := rest) ⟨X.1, X.2.1, X.2.2.1, X.2.2.2.2.1, X.2.2.2.2.2.1⟩ (hct a0 σ1 hE0) (va_cwS n X.2.2.2.2.2.1 (gtb_in (fun w hw => ?_)) rfl rfl rfl ⟨c8.1, c8.2.1, c8.2.2⟩ (rm_ok hd hl)) ⟨Pre.blind G σ _, fun U hU hW => ⟨rfl, by rw [hU]; exact hP, va_K.moved hW.alike X.2.2.2.2.2.2.2.1, X.2.2.2.2.2.2.2.2.warm hW⟩⟩ rfl hn hl'.1 hs (lv_room hw) d ⟨Nat.le_refl _, Nat.le_refl _⟩) hS (fun H1 locs1 hP1 hS1 => kk a σ' hE p e s m args below meth c X ls H1 locs1 hl' hP1 hS1)
    rcases List.mem_append.mp hw with h | h
    · rcases List.mem_cons.mp h with rfl | h
      · exact c3
      rcases List.mem_cons.mp h with rfl | h
      · exact c4
      rcases List.mem_cons.mp h with rfl | h
      · exact c6
      · cases h
    · rcases List.mem_cons.mp h with rfl | h
      · exact c7
      · exact h
theorem Aw.callN {i n : Nat} {y : MethodName} {host : String} {M' : Mt} {As rest : List Value} {E0 : Option (β × Sg)} {K : β → Sg → Option (α × Sg)} (hv : CN M.1 i y host M' n) (hct : Ct l G y M' rv' As σ E0) (hn : As.length = n) (hs : st = As.reverse ++ rest) (hw : (rest.map fun v => v.category).sum ≤ 8) (hd : M'.2.2.2.2 + 1 ≤ M.2.2.2.2) (hl : M'.2.2.1 ≤ 45)
    (hq : pc + 3 = q) (d : decode M.2.1 pc = .ok (.invokestatic i, 3)) (kk : ∀ a σ1, E0 = some (a, σ1) → Aw l G M rv q L ((rv' a).toList ++ rest) σ1 (K a σ1)) : Aw l G M rv pc L st σ (cb E0 K) := by
  subst hq
  cases hE0 : E0 with
  | none => exact Aw.no
  | some x =>
    obtain ⟨a0, σ1⟩ := x
    have kk := kk a0 σ1 hE0
    obtain ⟨c3, c4, c6, c7, c8⟩ := hv
    intro a σ' hE p e s m args below meth c X ls H locs hl' hP hS
    refine run_go (va_runSN (Ts := gtb) (As := As) (rest := rest) ⟨X.1, X.2.1, X.2.2.1, X.2.2.2.2.1, X.2.2.2.2.2.1⟩ (hct a0 σ1 hE0) ⟨va_cnB n X.2.2.2.2.2.1 (gtb_in (fun w hw => ?_)) rfl rfl rfl (X.2.2.2.2.2.2.2.2 _ c3) (X.2.2.2.2.2.1 _ c6) ⟨c8.1, c8.2.1, c8.2.2⟩ (rm_ok hd hl), X.2.2.2.2.2.1 _ c4, trivial⟩ ⟨Pre.blind G σ _, fun U hU hW => ⟨rfl, by rw [hU]; exact hP, va_K.moved hW.alike X.2.2.2.2.2.2.2.1, X.2.2.2.2.2.2.2.2.warm hW⟩⟩ rfl hn hl'.1 hs (lv_room hw) d ⟨Nat.le_refl _, Nat.le_refl _⟩) hS (fun H1 locs1 hP1 hS1 => kk a σ' hE p e s m args below meth c X ls H1 locs1 hl' hP1 hS1)
    rcases List.mem_cons.mp hw with rfl | h
    · exact c7
    · exact h
theorem Aw.callVi {i ci n k : Nat} {y : MethodName} {M' : Mt} {As rest : List Value} {E0 : Option (Int32 × Sg)} {K : Int32 → Sg → Option (α × Sg)} (hv : CV M.1 i ci y M' n) (hc : ci ≤ 6) (hk : kd k = ci) (hct : Ct l G y M' rI (.ref (Gb G + k) :: As) σ E0) (hn : As.length = n) (hs : st = As.reverse ++ .ref (Gb G + k) :: rest) (hw : (rest.map fun v => v.category).sum ≤ 8) (hd : M'.2.2.2.2 + 1 ≤ M.2.2.2.2) (hl : M'.2.2.1 ≤ 45) (hq : pc + 3 = q) (d : decode M.2.1 pc = .ok (.invokevirtual i, 3)) (kk : ∀ a σ1, E0 = some (a, σ1) → Aw l G M rv q L (.int a :: rest) σ1 (K a σ1)) : Aw l G M rv pc L st σ (cb E0 K) := Aw.callV hv hc hk hct hn hs hw hd hl hq d kk
theorem Aw.callVl {i ci n k : Nat} {y : MethodName} {M' : Mt} {As rest : List Value} {E0 : Option (Int64 × Sg)} {K : Int64 → Sg → Option (α × Sg)} (hv : CV M.1 i ci y M' n) (hc : ci ≤ 6) (hk : kd k = ci) (hct : Ct l G y M' rL (.ref (Gb G + k) :: As) σ E0) (hn : As.length = n) (hs : st = As.reverse ++ .ref (Gb G + k) :: rest) (hw : (rest.map fun v => v.category).sum ≤ 8) (hd : M'.2.2.2.2 + 1 ≤ M.2.2.2.2) (hl : M'.2.2.1 ≤ 45) (hq : pc + 3 = q) (d : decode M.2.1 pc = .ok (.invokevirtual i, 3)) (kk : ∀ a σ1, E0 = some (a, σ1) → Aw l G M rv q L (.long a :: rest) σ1 (K a σ1)) : Aw l G M rv pc L st σ (cb E0 K) := Aw.callV hv hc hk hct hn hs hw hd hl hq d kk
theorem Aw.callVv {i ci n k : Nat} {y : MethodName} {M' : Mt} {As rest : List Value} {E0 : Option (Unit × Sg)} {K : Unit → Sg → Option (α × Sg)} (hv : CV M.1 i ci y M' n) (hc : ci ≤ 6) (hk : kd k = ci) (hct : Ct l G y M' rV (.ref (Gb G + k) :: As) σ E0) (hn : As.length = n) (hs : st = As.reverse ++ .ref (Gb G + k) :: rest) (hw : (rest.map fun v => v.category).sum ≤ 8) (hd : M'.2.2.2.2 + 1 ≤ M.2.2.2.2) (hl : M'.2.2.1 ≤ 45) (hq : pc + 3 = q) (d : decode M.2.1 pc = .ok (.invokevirtual i, 3)) (kk : ∀ a σ1, E0 = some (a, σ1) → Aw l G M rv q L (rest) σ1 (K a σ1)) : Aw l G M rv pc L st σ (cb E0 K) := Aw.callV hv hc hk hct hn hs hw hd hl hq d kk
theorem Aw.callSi {i n : Nat} {y : MethodName} {M' : Mt} {As rest : List Value} {E0 : Option (Int32 × Sg)} {K : Int32 → Sg → Option (α × Sg)} (hv : CS M.1 i y M' n) (hct : Ct l G y M' rI As σ E0) (hn : As.length = n) (hs : st = As.reverse ++ rest) (hw : (rest.map fun v => v.category).sum ≤ 8) (hd : M'.2.2.2.2 + 1 ≤ M.2.2.2.2) (hl : M'.2.2.1 ≤ 45) (hq : pc + 3 = q) (d : decode M.2.1 pc = .ok (.invokestatic i, 3)) (kk : ∀ a σ1, E0 = some (a, σ1) → Aw l G M rv q L (.int a :: rest) σ1 (K a σ1)) : Aw l G M rv pc L st σ (cb E0 K) := Aw.callS hv hct hn hs hw hd hl hq d kk
theorem Aw.callSl {i n : Nat} {y : MethodName} {M' : Mt} {As rest : List Value} {E0 : Option (Int64 × Sg)} {K : Int64 → Sg → Option (α × Sg)} (hv : CS M.1 i y M' n) (hct : Ct l G y M' rL As σ E0) (hn : As.length = n) (hs : st = As.reverse ++ rest) (hw : (rest.map fun v => v.category).sum ≤ 8) (hd : M'.2.2.2.2 + 1 ≤ M.2.2.2.2) (hl : M'.2.2.1 ≤ 45) (hq : pc + 3 = q) (d : decode M.2.1 pc = .ok (.invokestatic i, 3)) (kk : ∀ a σ1, E0 = some (a, σ1) → Aw l G M rv q L (.long a :: rest) σ1 (K a σ1)) : Aw l G M rv pc L st σ (cb E0 K) := Aw.callS hv hct hn hs hw hd hl hq d kk
theorem Aw.callSv {i n : Nat} {y : MethodName} {M' : Mt} {As rest : List Value} {E0 : Option (Unit × Sg)} {K : Unit → Sg → Option (α × Sg)} (hv : CS M.1 i y M' n) (hct : Ct l G y M' rV As σ E0) (hn : As.length = n) (hs : st = As.reverse ++ rest) (hw : (rest.map fun v => v.category).sum ≤ 8) (hd : M'.2.2.2.2 + 1 ≤ M.2.2.2.2) (hl : M'.2.2.1 ≤ 45) (hq : pc + 3 = q) (d : decode M.2.1 pc = .ok (.invokestatic i, 3)) (kk : ∀ a σ1, E0 = some (a, σ1) → Aw l G M rv q L (rest) σ1 (K a σ1)) : Aw l G M rv pc L st σ (cb E0 K) := Aw.callS hv hct hn hs hw hd hl hq d kk
theorem Aw.callNi {i n : Nat} {y : MethodName} {host : String} {M' : Mt} {As rest : List Value} {E0 : Option (Int32 × Sg)} {K : Int32 → Sg → Option (α × Sg)} (hv : CN M.1 i y host M' n) (hct : Ct l G y M' rI As σ E0) (hn : As.length = n) (hs : st = As.reverse ++ rest) (hw : (rest.map fun v => v.category).sum ≤ 8) (hd : M'.2.2.2.2 + 1 ≤ M.2.2.2.2) (hl : M'.2.2.1 ≤ 45) (hq : pc + 3 = q) (d : decode M.2.1 pc = .ok (.invokestatic i, 3)) (kk : ∀ a σ1, E0 = some (a, σ1) → Aw l G M rv q L (.int a :: rest) σ1 (K a σ1)) : Aw l G M rv pc L st σ (cb E0 K) := Aw.callN hv hct hn hs hw hd hl hq d kk
theorem Aw.callNl {i n : Nat} {y : MethodName} {host : String} {M' : Mt} {As rest : List Value} {E0 : Option (Int64 × Sg)} {K : Int64 → Sg → Option (α × Sg)} (hv : CN M.1 i y host M' n) (hct : Ct l G y M' rL As σ E0) (hn : As.length = n) (hs : st = As.reverse ++ rest) (hw : (rest.map fun v => v.category).sum ≤ 8) (hd : M'.2.2.2.2 + 1 ≤ M.2.2.2.2) (hl : M'.2.2.1 ≤ 45) (hq : pc + 3 = q) (d : decode M.2.1 pc = .ok (.invokestatic i, 3)) (kk : ∀ a σ1, E0 = some (a, σ1) → Aw l G M rv q L (.long a :: rest) σ1 (K a σ1)) : Aw l G M rv pc L st σ (cb E0 K) := Aw.callN hv hct hn hs hw hd hl hq d kk
theorem Aw.callNv {i n : Nat} {y : MethodName} {host : String} {M' : Mt} {As rest : List Value} {E0 : Option (Unit × Sg)} {K : Unit → Sg → Option (α × Sg)} (hv : CN M.1 i y host M' n) (hct : Ct l G y M' rV As σ E0) (hn : As.length = n) (hs : st = As.reverse ++ rest) (hw : (rest.map fun v => v.category).sum ≤ 8) (hd : M'.2.2.2.2 + 1 ≤ M.2.2.2.2) (hl : M'.2.2.1 ≤ 45) (hq : pc + 3 = q) (d : decode M.2.1 pc = .ok (.invokestatic i, 3)) (kk : ∀ a σ1, E0 = some (a, σ1) → Aw l G M rv q L (rest) σ1 (K a σ1)) : Aw l G M rv pc L st σ (cb E0 K) := Aw.callN hv hct hn hs hw hd hl hq d kk
theorem Aw.mabs {i : Nat} {x : Int32} (h1 : Cond.methodLink M.1 i Lib.Math.abs.name ∈ gtb) (h2 : Cond.static Lib.Math.abs.name ∈ gtb) (h3 : Cond.initialized "java/lang/Math" ∈ gtb) (h4 : Cond.code Lib.Math.abs.name Lib.Math.abs.code 1 (some .int) ∈ gtb) (hw : (st.map fun v => v.category).sum ≤ 8) (hd : 1 ≤ M.2.2.2.2) (hq : pc + 3 = q) (d : decode M.2.1 pc = .ok (.invokestatic i, 3))
    (k : Aw l G M rv q L (.int (if 0 ≤ x then x else 0 - x) :: st) σ E) : Aw l G M rv pc L (.int x :: st) σ E := by
  subst hq
  exact fun a σ' hE p e s m args below meth c X ls H locs hl hP hS => va_mabs X.1 X.2.1 (X.2.2.1.trans hl.1.symm) X.2.2.2.2.1 (X.2.2.2.2.2.1 _ h1) (X.2.2.2.2.2.1 _ h2) (X.2.2.2.2.2.1 _ h3) (X.2.2.2.2.2.1 _ h4) hd (by show _ ≤ 64 * M.2.2.2.2; omega) (Nat.zero_le _) (Nat.zero_le _) d (k a σ' hE p e s m args below meth c X ls H locs hl hP hS)
theorem Aw.mmin {i : Nat} {x y : Int32} (h1 : Cond.methodLink M.1 i Lib.Math.min.name ∈ gtb) (h2 : Cond.static Lib.Math.min.name ∈ gtb) (h3 : Cond.initialized "java/lang/Math" ∈ gtb) (h4 : Cond.code Lib.Math.min.name Lib.Math.min.code 2 (some .int) ∈ gtb) (hw : (st.map fun v => v.category).sum ≤ 8) (hd : 1 ≤ M.2.2.2.2) (hq : pc + 3 = q) (d : decode M.2.1 pc = .ok (.invokestatic i, 3))
    (k : Aw l G M rv q L (.int (if y < x then y else x) :: st) σ E) : Aw l G M rv pc L (.int y :: .int x :: st) σ E := by
  subst hq
  exact fun a σ' hE p e s m args below meth c X ls H locs hl hP hS => va_mmin X.1 X.2.1 (X.2.2.1.trans hl.1.symm) X.2.2.2.2.1 (X.2.2.2.2.2.1 _ h1) (X.2.2.2.2.2.1 _ h2) (X.2.2.2.2.2.1 _ h3) (X.2.2.2.2.2.1 _ h4) hd (by show _ ≤ 64 * M.2.2.2.2; omega) (Nat.zero_le _) (Nat.zero_le _) d (k a σ' hE p e s m args below meth c X ls H locs hl hP hS)
/-- arraycopy of a whole stretch of int rows; the places are small constants -/
theorem Aw.acopy {i k0 k1 n0 n1 : Nat} {n : Int32} (h1 : Cond.methodLink M.1 i arraycopyName ∈ gtb) (h2 : Cond.native arraycopyName ∈ gtb) (h3 : Cond.static arraycopyName ∈ gtb) (h4 : Cond.initialized "java/lang/System" ∈ gtb) (hk0 : kd k0 = 7) (hk1 : kd k1 = 7) (hn0 : ln k0 = n0) (hn1 : ln k1 = n1) (hn : ¬ n < 0) (hs0 : n.toNatClampNeg ≤ n0) (hs1 : n.toNatClampNeg ≤ n1) (hw : (st.map fun v => v.category).sum ≤ 8) (hd : 1 ≤ M.2.2.2.2) (hq : pc + 3 = q) (d : decode M.2.1 pc = .ok (.invokestatic i, 3))
    (k : Aw l G M rv q L st (cpy σ k0 0 k1 0 n.toNatClampNeg) E) : Aw l G M rv pc L (.int n :: .int 0 :: .ref (Gb G + k1) :: .int 0 :: .ref (Gb G + k0) :: st) σ E := by
  subst hq; subst hn0; subst hn1
  refine fun a σ' hE p e s m args below meth c X ls H locs hl hP hS => ?_
  have l0 : k0 < 307 := kd_lt (by omega)
  have l1 : k1 < 307 := kd_lt (by omega)
  have a0 := wsO_at G σ l0
  rw [ce_int G σ hk0] at a0
  have a1 := wsO_at G σ l1
  rw [ce_int G σ hk1] at a1
  refine va_copyi (D := Gd G) X.1 X.2.1 (X.2.2.1.trans hl.1.symm) X.2.2.2.2.1 (X.2.2.2.2.2.1 _ h1) (X.2.2.2.2.2.1 _ h2) (X.2.2.2.2.2.1 _ h3) (X.2.2.2.2.2.1 _ h4) X.2.2.2.2.2.2.2.1 hP (wsO_D G σ) hS k0 k1 0 0 (ty := .int) a0 a1 rfl rfl rfl (by decide) (by decide) hn (by show 0 + _ ≤ _; omega) (by show 0 + _ ≤ _; omega) (fun _ _ => rfl) hd ?_ d (fun H locs hP hD hS => ?_)
  · have e1 : nativeFrameWords "java/lang/System" "arraycopy" 5 + 11 ≤ 40 := by decide +kernel
    show _ ≤ 64 * M.2.2.2.2
    omega
  · rw [wsO_set G σ (cpy σ k0 0 k1 0 n.toNatClampNeg) l1 (by rw [ce_int G _ hk1, cpy_s]; rfl) (fun j' hj => cpy_o σ k0 0 k1 0 _ hj)] at hP
    exact k a σ' hE p e s m args below meth c X ls H locs hl hP hS
end CALLS
end
section
theorem gm {w : Cond} (i : Nat) (h : lw_tbl[i]? = some w) (g : goodWord w = true) : w ∈ gtb := List.mem_filter.mpr ⟨List.mem_of_getElem? h, g⟩
theorem ingX0 : ∀ w ∈ u_ws RX0 TX0 3, w ∈ gtb := by decide +kernel
theorem ingX1 : ∀ w ∈ u_ws RX1 TX1 3, w ∈ gtb := by decide +kernel
theorem ingX2 : ∀ w ∈ u_ws RX2 TX2 15, w ∈ gtb := by decide +kernel
theorem ingX3 : ∀ w ∈ u_ws RX3 TX3 9, w ∈ gtb := by decide +kernel
theorem ingX4 : ∀ w ∈ u_ws RX4 TX4 8, w ∈ gtb := by decide +kernel
theorem ingX5 : ∀ w ∈ u_ws RX5 TX5 5, w ∈ gtb := by decide +kernel
theorem ingX6 : ∀ w ∈ u_ws RX6 TX6 14, w ∈ gtb := by decide +kernel
theorem fl_X0_9 : FL RX0 9 0 0 := ⟨_, rfl, by decide, rfl, gm 103 (by decide +kernel) (by decide +kernel), ingX0⟩
theorem fl_X3_73 : FL RX3 73 0 0 := ⟨_, rfl, by decide, rfl, gm 104 (by decide +kernel) (by decide +kernel), ingX0⟩
theorem fl_X0_15 : FL RX0 15 0 1 := ⟨_, rfl, by decide, rfl, gm 105 (by decide +kernel) (by decide +kernel), ingX0⟩
theorem fl_X3_79 : FL RX3 79 0 1 := ⟨_, rfl, by decide, rfl, gm 106 (by decide +kernel) (by decide +kernel), ingX0⟩
theorem fl_X0_18 : FL RX0 18 0 2 := ⟨_, rfl, by decide, rfl, gm 107 (by decide +kernel) (by decide +kernel), ingX0⟩
theorem fl_X3_82 : FL RX3 82 0 2 := ⟨_, rfl, by decide, rfl, gm 108 (by decide +kernel) (by decide +kernel), ingX0⟩
theorem fl_X3_31 : FL RX3 31 3 0 := ⟨_, rfl, by decide, rfl, gm 117 (by decide +kernel) (by decide +kernel), ingX3⟩
theorem fl_X2_65 : FL RX2 65 3 0 := ⟨_, rfl, by decide, rfl, gm 118 (by decide +kernel) (by decide +kernel), ingX3⟩
theorem fl_X5_176 : FL RX5 176 3 0 := ⟨_, rfl, by decide, rfl, gm 119 (by decide +kernel) (by decide +kernel), ingX3⟩
theorem fl_X3_9 : FL RX3 9 3 1 := ⟨_, rfl, by decide, rfl, gm 120 (by decide +kernel) (by decide +kernel), ingX3⟩
theorem fl_X2_82 : FL RX2 82 3 1 := ⟨_, rfl, by decide, rfl, gm 121 (by decide +kernel) (by decide +kernel), ingX3⟩
theorem fl_X3_15 : FL RX3 15 3 2 := ⟨_, rfl, by decide, rfl, gm 122 (by decide +kernel) (by decide +kernel), ingX3⟩
theorem fl_X2_75 : FL RX2 75 3 2 := ⟨_, rfl, by decide, rfl, gm 123 (by decide +kernel) (by decide +kernel), ingX3⟩
theorem fl_X3_41 : FL RX3 41 3 3 := ⟨_, rfl, by decide, rfl, gm 124 (by decide +kernel) (by decide +kernel), ingX3⟩
theorem fl_X2_71 : FL RX2 71 3 3 := ⟨_, rfl, by decide, rfl, gm 125 (by decide +kernel) (by decide +kernel), ingX3⟩
theorem fl_X5_179 : FL RX5 179 3 3 := ⟨_, rfl, by decide, rfl, gm 126 (by decide +kernel) (by decide +kernel), ingX3⟩
theorem fl_X3_20 : FL RX3 20 3 4 := ⟨_, rfl, by decide, rfl, gm 127 (by decide +kernel) (by decide +kernel), ingX3⟩
theorem fl_X2_95 : FL RX2 95 3 4 := ⟨_, rfl, by decide, rfl, gm 128 (by decide +kernel) (by decide +kernel), ingX3⟩
theorem fl_X3_48 : FL RX3 48 3 5 := ⟨_, rfl, by decide, rfl, gm 129 (by decide +kernel) (by decide +kernel), ingX3⟩
theorem fl_X5_185 : FL RX5 185 3 5 := ⟨_, rfl, by decide, rfl, gm 130 (by decide +kernel) (by decide +kernel), ingX3⟩
theorem fl_X3_24 : FL RX3 24 3 6 := ⟨_, rfl, by decide, rfl, gm 131 (by decide +kernel) (by decide +kernel), ingX3⟩
theorem fl_X5_188 : FL RX5 188 3 6 := ⟨_, rfl, by decide, rfl, gm 132 (by decide +kernel) (by decide +kernel), ingX3⟩
theorem fl_X3_27 : FL RX3 27 3 7 := ⟨_, rfl, by decide, rfl, gm 133 (by decide +kernel) (by decide +kernel), ingX3⟩
theorem fl_X3_51 : FL RX3 51 3 8 := ⟨_, rfl, by decide, rfl, gm 134 (by decide +kernel) (by decide +kernel), ingX3⟩
theorem fl_X1_13 : FL RX1 13 1 0 := ⟨_, rfl, by decide, rfl, gm 163 (by decide +kernel) (by decide +kernel), ingX1⟩
theorem fl_X1_18 : FL RX1 18 1 1 := ⟨_, rfl, by decide, rfl, gm 164 (by decide +kernel) (by decide +kernel), ingX1⟩
theorem fl_X1_26 : FL RX1 26 1 2 := ⟨_, rfl, by decide, rfl, gm 165 (by decide +kernel) (by decide +kernel), ingX1⟩
theorem fl_X5_164 : FL RX5 164 1 2 := ⟨_, rfl, by decide, rfl, gm 166 (by decide +kernel) (by decide +kernel), ingX1⟩
theorem fl_X4_9 : FL RX4 9 4 0 := ⟨_, rfl, by decide, rfl, gm 180 (by decide +kernel) (by decide +kernel), ingX4⟩
theorem fl_X4_25 : FL RX4 25 4 1 := ⟨_, rfl, by decide, rfl, gm 181 (by decide +kernel) (by decide +kernel), ingX4⟩
theorem fl_X5_160 : FL RX5 160 4 1 := ⟨_, rfl, by decide, rfl, gm 182 (by decide +kernel) (by decide +kernel), ingX4⟩
theorem fl_X4_29 : FL RX4 29 4 2 := ⟨_, rfl, by decide, rfl, gm 183 (by decide +kernel) (by decide +kernel), ingX4⟩
theorem fl_X4_32 : FL RX4 32 4 3 := ⟨_, rfl, by decide, rfl, gm 184 (by decide +kernel) (by decide +kernel), ingX4⟩
theorem fl_X4_49 : FL RX4 49 4 4 := ⟨_, rfl, by decide, rfl, gm 185 (by decide +kernel) (by decide +kernel), ingX4⟩
theorem fl_X5_196 : FL RX5 196 4 4 := ⟨_, rfl, by decide, rfl, gm 186 (by decide +kernel) (by decide +kernel), ingX4⟩
theorem fl_X4_15 : FL RX4 15 4 5 := ⟨_, rfl, by decide, rfl, gm 187 (by decide +kernel) (by decide +kernel), ingX4⟩
theorem fl_X5_193 : FL RX5 193 4 5 := ⟨_, rfl, by decide, rfl, gm 188 (by decide +kernel) (by decide +kernel), ingX4⟩
theorem fl_X4_18 : FL RX4 18 4 6 := ⟨_, rfl, by decide, rfl, gm 189 (by decide +kernel) (by decide +kernel), ingX4⟩
theorem fl_X5_199 : FL RX5 199 4 6 := ⟨_, rfl, by decide, rfl, gm 190 (by decide +kernel) (by decide +kernel), ingX4⟩
theorem fl_X4_69 : FL RX4 69 4 7 := ⟨_, rfl, by decide, rfl, gm 191 (by decide +kernel) (by decide +kernel), ingX4⟩
theorem fl_X2_11 : FL RX2 11 2 0 := ⟨_, rfl, by decide, rfl, gm 217 (by decide +kernel) (by decide +kernel), ingX2⟩
theorem fl_X2_16 : FL RX2 16 2 1 := ⟨_, rfl, by decide, rfl, gm 218 (by decide +kernel) (by decide +kernel), ingX2⟩
theorem fl_X2_20 : FL RX2 20 2 2 := ⟨_, rfl, by decide, rfl, gm 219 (by decide +kernel) (by decide +kernel), ingX2⟩
theorem fl_X2_23 : FL RX2 23 2 3 := ⟨_, rfl, by decide, rfl, gm 220 (by decide +kernel) (by decide +kernel), ingX2⟩
theorem fl_X2_26 : FL RX2 26 2 4 := ⟨_, rfl, by decide, rfl, gm 221 (by decide +kernel) (by decide +kernel), ingX2⟩
theorem fl_X2_29 : FL RX2 29 2 5 := ⟨_, rfl, by decide, rfl, gm 222 (by decide +kernel) (by decide +kernel), ingX2⟩
theorem fl_X2_32 : FL RX2 32 2 6 := ⟨_, rfl, by decide, rfl, gm 223 (by decide +kernel) (by decide +kernel), ingX2⟩
theorem fl_X2_35 : FL RX2 35 2 7 := ⟨_, rfl, by decide, rfl, gm 224 (by decide +kernel) (by decide +kernel), ingX2⟩
theorem fl_X2_70 : FL RX2 70 2 8 := ⟨_, rfl, by decide, rfl, gm 225 (by decide +kernel) (by decide +kernel), ingX2⟩
theorem fl_X2_74 : FL RX2 74 2 9 := ⟨_, rfl, by decide, rfl, gm 226 (by decide +kernel) (by decide +kernel), ingX2⟩
theorem fl_X2_62 : FL RX2 62 2 10 := ⟨_, rfl, by decide, rfl, gm 227 (by decide +kernel) (by decide +kernel), ingX2⟩
theorem fl_X2_107 : FL RX2 107 2 11 := ⟨_, rfl, by decide, rfl, gm 228 (by decide +kernel) (by decide +kernel), ingX2⟩
theorem fl_X2_42 : FL RX2 42 2 12 := ⟨_, rfl, by decide, rfl, gm 229 (by decide +kernel) (by decide +kernel), ingX2⟩
theorem fl_X2_46 : FL RX2 46 2 13 := ⟨_, rfl, by decide, rfl, gm 230 (by decide +kernel) (by decide +kernel), ingX2⟩
theorem fl_X2_50 : FL RX2 50 2 14 := ⟨_, rfl, by decide, rfl, gm 231 (by decide +kernel) (by decide +kernel), ingX2⟩
theorem fl_X5_12 : FL RX5 12 5 0 := ⟨_, rfl, by decide, rfl, gm 263 (by decide +kernel) (by decide +kernel), ingX5⟩
theorem fl_X5_19 : FL RX5 19 5 1 := ⟨_, rfl, by decide, rfl, gm 264 (by decide +kernel) (by decide +kernel), ingX5⟩
theorem fl_X5_26 : FL RX5 26 5 2 := ⟨_, rfl, by decide, rfl, gm 265 (by decide +kernel) (by decide +kernel), ingX5⟩
theorem fl_X5_33 : FL RX5 33 5 3 := ⟨_, rfl, by decide, rfl, gm 266 (by decide +kernel) (by decide +kernel), ingX5⟩
theorem fl_X5_37 : FL RX5 37 5 4 := ⟨_, rfl, by decide, rfl, gm 267 (by decide +kernel) (by decide +kernel), ingX5⟩
theorem fl_X6_7 : FL RX6 7 6 0 := ⟨_, rfl, by decide, rfl, gm 737 (by decide +kernel) (by decide +kernel), ingX6⟩
theorem fl_X6_13 : FL RX6 13 6 1 := ⟨_, rfl, by decide, rfl, gm 738 (by decide +kernel) (by decide +kernel), ingX6⟩
theorem fl_X6_42 : FL RX6 42 6 2 := ⟨_, rfl, by decide, rfl, gm 739 (by decide +kernel) (by decide +kernel), ingX6⟩
theorem fl_X6_16 : FL RX6 16 6 3 := ⟨_, rfl, by decide, rfl, gm 740 (by decide +kernel) (by decide +kernel), ingX6⟩
theorem fl_X6_19 : FL RX6 19 6 4 := ⟨_, rfl, by decide, rfl, gm 741 (by decide +kernel) (by decide +kernel), ingX6⟩
theorem fl_X6_34 : FL RX6 34 6 5 := ⟨_, rfl, by decide, rfl, gm 742 (by decide +kernel) (by decide +kernel), ingX6⟩
theorem fl_X6_22 : FL RX6 22 6 6 := ⟨_, rfl, by decide, rfl, gm 743 (by decide +kernel) (by decide +kernel), ingX6⟩
theorem fl_X6_25 : FL RX6 25 6 7 := ⟨_, rfl, by decide, rfl, gm 744 (by decide +kernel) (by decide +kernel), ingX6⟩
theorem fl_X6_28 : FL RX6 28 6 8 := ⟨_, rfl, by decide, rfl, gm 745 (by decide +kernel) (by decide +kernel), ingX6⟩
theorem fl_X6_31 : FL RX6 31 6 9 := ⟨_, rfl, by decide, rfl, gm 746 (by decide +kernel) (by decide +kernel), ingX6⟩
theorem fl_X6_188 : FL RX6 188 6 10 := ⟨_, rfl, by decide, rfl, gm 747 (by decide +kernel) (by decide +kernel), ingX6⟩
theorem fl_X6_160 : FL RX6 160 6 11 := ⟨_, rfl, by decide, rfl, gm 748 (by decide +kernel) (by decide +kernel), ingX6⟩
theorem fl_X6_166 : FL RX6 166 6 12 := ⟨_, rfl, by decide, rfl, gm 749 (by decide +kernel) (by decide +kernel), ingX6⟩
theorem fl_X6_172 : FL RX6 172 6 13 := ⟨_, rfl, by decide, rfl, gm 750 (by decide +kernel) (by decide +kernel), ingX6⟩
theorem fp_1_1 : FP 1 1 .int := ⟨_, tyX1, rfl, rfl, by decide +kernel, tyX1_ok, nmX1⟩
theorem fp_1_2 : FP 1 2 .int := ⟨_, tyX1, rfl, rfl, by decide +kernel, tyX1_ok, nmX1⟩
theorem fp_2_8 : FP 2 8 .int := ⟨_, tyX2, rfl, rfl, by decide +kernel, tyX2_ok, nmX2⟩
theorem fp_2_9 : FP 2 9 .int := ⟨_, tyX2, rfl, rfl, by decide +kernel, tyX2_ok, nmX2⟩
theorem fp_2_10 : FP 2 10 .int := ⟨_, tyX2, rfl, rfl, by decide +kernel, tyX2_ok, nmX2⟩
theorem fp_2_11 : FP 2 11 .int := ⟨_, tyX2, rfl, rfl, by decide +kernel, tyX2_ok, nmX2⟩
theorem fp_2_12 : FP 2 12 .int := ⟨_, tyX2, rfl, rfl, by decide +kernel, tyX2_ok, nmX2⟩
theorem fp_2_13 : FP 2 13 .boolean := ⟨_, tyX2, rfl, rfl, by decide +kernel, tyX2_ok, nmX2⟩
theorem fp_2_14 : FP 2 14 .int := ⟨_, tyX2, rfl, rfl, by decide +kernel, tyX2_ok, nmX2⟩
theorem fp_3_0 : FP 3 0 .int := ⟨_, tyX3, rfl, rfl, by decide +kernel, tyX3_ok, nmX3⟩
theorem fp_3_3 : FP 3 3 .int := ⟨_, tyX3, rfl, rfl, by decide +kernel, tyX3_ok, nmX3⟩
theorem fp_3_5 : FP 3 5 .int := ⟨_, tyX3, rfl, rfl, by decide +kernel, tyX3_ok, nmX3⟩
theorem fp_3_8 : FP 3 8 .int := ⟨_, tyX3, rfl, rfl, by decide +kernel, tyX3_ok, nmX3⟩
theorem fp_4_1 : FP 4 1 .int := ⟨_, tyX4, rfl, rfl, by decide +kernel, tyX4_ok, nmX4⟩
theorem fp_4_2 : FP 4 2 .int := ⟨_, tyX4, rfl, rfl, by decide +kernel, tyX4_ok, nmX4⟩
theorem fp_4_3 : FP 4 3 .int := ⟨_, tyX4, rfl, rfl, by decide +kernel, tyX4_ok, nmX4⟩
theorem fp_4_4 : FP 4 4 .int := ⟨_, tyX4, rfl, rfl, by decide +kernel, tyX4_ok, nmX4⟩
theorem fp_4_7 : FP 4 7 .int := ⟨_, tyX4, rfl, rfl, by decide +kernel, tyX4_ok, nmX4⟩
theorem fp_6_2 : FP 6 2 .int := ⟨_, tyX6, rfl, rfl, by decide +kernel, tyX6_ok, nmX6⟩
theorem fp_6_5 : FP 6 5 .int := ⟨_, tyX6, rfl, rfl, by decide +kernel, tyX6_ok, nmX6⟩
theorem fp_6_10 : FP 6 10 .int := ⟨_, tyX6, rfl, rfl, by decide +kernel, tyX6_ok, nmX6⟩
theorem fp_6_11 : FP 6 11 .int := ⟨_, tyX6, rfl, rfl, by decide +kernel, tyX6_ok, nmX6⟩
theorem fp_6_12 : FP 6 12 .int := ⟨_, tyX6, rfl, rfl, by decide +kernel, tyX6_ok, nmX6⟩
theorem fp_6_13 : FP 6 13 .int := ⟨_, tyX6, rfl, rfl, by decide +kernel, tyX6_ok, nmX6⟩
theorem ini_X0 : Cond.initialized RX0 ∈ gtb := gm 73 (by decide +kernel) (by decide +kernel)
theorem ini_X1 : Cond.initialized RX1 ∈ gtb := gm 74 (by decide +kernel) (by decide +kernel)
theorem ini_X2 : Cond.initialized RX2 ∈ gtb := gm 76 (by decide +kernel) (by decide +kernel)
theorem ini_X3 : Cond.initialized RX3 ∈ gtb := gm 72 (by decide +kernel) (by decide +kernel)
theorem ini_X4 : Cond.initialized RX4 ∈ gtb := gm 75 (by decide +kernel) (by decide +kernel)
theorem ini_X5 : Cond.initialized RX5 ∈ gtb := gm 71 (by decide +kernel) (by decide +kernel)
theorem ini_X6 : Cond.initialized RX6 ∈ gtb := gm 77 (by decide +kernel) (by decide +kernel)
theorem ini_J6 : Cond.initialized RJ6 ∈ gtb := gm 80 (by decide +kernel) (by decide +kernel)
theorem ini_J9 : Cond.initialized "java/lang/Math" ∈ gtb := gm 79 (by decide +kernel) (by decide +kernel)
theorem ini_J10 : Cond.initialized "java/lang/System" ∈ gtb := gm 78 (by decide +kernel) (by decide +kernel)
theorem ini_J7 : Cond.initialized RJ7 ∈ gtb := gm 81 (by decide +kernel) (by decide +kernel)
theorem ini_L : Cond.initialized RL ∈ gtb := gm 70 (by decide +kernel) (by decide +kernel)
theorem cw_X0_init : Cond.code yX0_init cX0_init 1 none ∈ gtb := gm 101 (by decide +kernel) (by decide +kernel)
theorem ins_X0_init : Cond.instanceMethod yX0_init ∈ gtb := gm 100 (by decide +kernel) (by decide +kernel)
theorem cw_X0_reset : Cond.code yX0_reset cX0_reset 2 none ∈ gtb := gm 340 (by decide +kernel) (by decide +kernel)
theorem ins_X0_reset : Cond.instanceMethod yX0_reset ∈ gtb := gm 338 (by decide +kernel) (by decide +kernel)
theorem sel_X0_reset : Cond.selects RX0 yX0_reset yX0_reset ∈ gtb := gm 339 (by decide +kernel) (by decide +kernel)
theorem cw_X0_copyFrom : Cond.code yX0_copyFrom cX0_copyFrom 2 none ∈ gtb := gm 297 (by decide +kernel) (by decide +kernel)
theorem ins_X0_copyFrom : Cond.instanceMethod yX0_copyFrom ∈ gtb := gm 295 (by decide +kernel) (by decide +kernel)
theorem sel_X0_copyFrom : Cond.selects RX0 yX0_copyFrom yX0_copyFrom ∈ gtb := gm 296 (by decide +kernel) (by decide +kernel)
theorem cw_X0_canBeJoinedWith : Cond.code yX0_canBeJoinedWith cX0_canBeJoinedWith 4 (some .boolean) ∈ gtb := gm 380 (by decide +kernel) (by decide +kernel)
theorem ins_X0_canBeJoinedWith : Cond.instanceMethod yX0_canBeJoinedWith ∈ gtb := gm 378 (by decide +kernel) (by decide +kernel)
theorem sel_X0_canBeJoinedWith : Cond.selects RX0 yX0_canBeJoinedWith yX0_canBeJoinedWith ∈ gtb := gm 379 (by decide +kernel) (by decide +kernel)
theorem cw_X0_becomeJoined : Cond.code yX0_becomeJoined cX0_becomeJoined 5 none ∈ gtb := gm 385 (by decide +kernel) (by decide +kernel)
theorem ins_X0_becomeJoined : Cond.instanceMethod yX0_becomeJoined ∈ gtb := gm 383 (by decide +kernel) (by decide +kernel)
theorem sel_X0_becomeJoined : Cond.selects RX0 yX0_becomeJoined yX0_becomeJoined ∈ gtb := gm 384 (by decide +kernel) (by decide +kernel)
theorem cw_X0_becomeTurnedBack : Cond.code yX0_becomeTurnedBack cX0_becomeTurnedBack 4 none ∈ gtb := gm 397 (by decide +kernel) (by decide +kernel)
theorem ins_X0_becomeTurnedBack : Cond.instanceMethod yX0_becomeTurnedBack ∈ gtb := gm 395 (by decide +kernel) (by decide +kernel)
theorem sel_X0_becomeTurnedBack : Cond.selects RX0 yX0_becomeTurnedBack yX0_becomeTurnedBack ∈ gtb := gm 396 (by decide +kernel) (by decide +kernel)
theorem cw_X0_placeBehind : Cond.code yX0_placeBehind cX0_placeBehind 3 (some .int) ∈ gtb := gm 424 (by decide +kernel) (by decide +kernel)
theorem ins_X0_placeBehind : Cond.instanceMethod yX0_placeBehind ∈ gtb := gm 422 (by decide +kernel) (by decide +kernel)
theorem sel_X0_placeBehind : Cond.selects RX0 yX0_placeBehind yX0_placeBehind ∈ gtb := gm 423 (by decide +kernel) (by decide +kernel)
theorem cw_X0_spotsThatWant : Cond.code yX0_spotsThatWant cX0_spotsThatWant 4 (some .int) ∈ gtb := gm 416 (by decide +kernel) (by decide +kernel)
theorem ins_X0_spotsThatWant : Cond.instanceMethod yX0_spotsThatWant ∈ gtb := gm 414 (by decide +kernel) (by decide +kernel)
theorem sel_X0_spotsThatWant : Cond.selects RX0 yX0_spotsThatWant yX0_spotsThatWant ∈ gtb := gm 415 (by decide +kernel) (by decide +kernel)
theorem cw_X0_fitsOn : Cond.code yX0_fitsOn cX0_fitsOn 3 (some .boolean) ∈ gtb := gm 412 (by decide +kernel) (by decide +kernel)
theorem ins_X0_fitsOn : Cond.instanceMethod yX0_fitsOn ∈ gtb := gm 410 (by decide +kernel) (by decide +kernel)
theorem sel_X0_fitsOn : Cond.selects RX0 yX0_fitsOn yX0_fitsOn ∈ gtb := gm 411 (by decide +kernel) (by decide +kernel)
theorem cw_X0_spotsThatMove : Cond.code yX0_spotsThatMove cX0_spotsThatMove 3 (some .int) ∈ gtb := gm 484 (by decide +kernel) (by decide +kernel)
theorem ins_X0_spotsThatMove : Cond.instanceMethod yX0_spotsThatMove ∈ gtb := gm 482 (by decide +kernel) (by decide +kernel)
theorem sel_X0_spotsThatMove : Cond.selects RX0 yX0_spotsThatMove yX0_spotsThatMove ∈ gtb := gm 483 (by decide +kernel) (by decide +kernel)
theorem cw_X0_spotsWithWant : Cond.code yX0_spotsWithWant cX0_spotsWithWant 1 (some .int) ∈ gtb := gm 498 (by decide +kernel) (by decide +kernel)
theorem ins_X0_spotsWithWant : Cond.instanceMethod yX0_spotsWithWant ∈ gtb := gm 496 (by decide +kernel) (by decide +kernel)
theorem sel_X0_spotsWithWant : Cond.selects RX0 yX0_spotsWithWant yX0_spotsWithWant ∈ gtb := gm 497 (by decide +kernel) (by decide +kernel)
theorem cw_X0_round : Cond.code yX0_round cX0_round 7 (some .int) ∈ gtb := gm 488 (by decide +kernel) (by decide +kernel)
theorem ins_X0_round : Cond.instanceMethod yX0_round ∈ gtb := gm 486 (by decide +kernel) (by decide +kernel)
theorem sel_X0_round : Cond.selects RX0 yX0_round yX0_round ∈ gtb := gm 487 (by decide +kernel) (by decide +kernel)
theorem cw_X0_timesToFaceAhead : Cond.code yX0_timesToFaceAhead cX0_timesToFaceAhead 2 (some .int) ∈ gtb := gm 491 (by decide +kernel) (by decide +kernel)
theorem sta_X0_timesToFaceAhead : Cond.static yX0_timesToFaceAhead ∈ gtb := gm 490 (by decide +kernel) (by decide +kernel)
theorem cw_X0_leastCommonMultiple : Cond.code yX0_leastCommonMultiple cX0_leastCommonMultiple 3 (some .int) ∈ gtb := gm 494 (by decide +kernel) (by decide +kernel)
theorem sta_X0_leastCommonMultiple : Cond.static yX0_leastCommonMultiple ∈ gtb := gm 493 (by decide +kernel) (by decide +kernel)
theorem cw_X1_init : Cond.code yX1_init cX1_init 2 none ∈ gtb := gm 158 (by decide +kernel) (by decide +kernel)
theorem ins_X1_init : Cond.instanceMethod yX1_init ∈ gtb := gm 157 (by decide +kernel) (by decide +kernel)
theorem cw_X1_prepare : Cond.code yX1_prepare cX1_prepare 2 none ∈ gtb := gm 286 (by decide +kernel) (by decide +kernel)
theorem ins_X1_prepare : Cond.instanceMethod yX1_prepare ∈ gtb := gm 284 (by decide +kernel) (by decide +kernel)
theorem sel_X1_prepare : Cond.selects RX1 yX1_prepare yX1_prepare ∈ gtb := gm 285 (by decide +kernel) (by decide +kernel)
theorem cw_X1_undo : Cond.code yX1_undo cX1_undo 2 none ∈ gtb := gm 704 (by decide +kernel) (by decide +kernel)
theorem ins_X1_undo : Cond.instanceMethod yX1_undo ∈ gtb := gm 702 (by decide +kernel) (by decide +kernel)
theorem sel_X1_undo : Cond.selects RX1 yX1_undo yX1_undo ∈ gtb := gm 703 (by decide +kernel) (by decide +kernel)
theorem cw_X1_confirm : Cond.code yX1_confirm cX1_confirm 1 none ∈ gtb := gm 321 (by decide +kernel) (by decide +kernel)
theorem ins_X1_confirm : Cond.instanceMethod yX1_confirm ∈ gtb := gm 319 (by decide +kernel) (by decide +kernel)
theorem sel_X1_confirm : Cond.selects RX1 yX1_confirm yX1_confirm ∈ gtb := gm 320 (by decide +kernel) (by decide +kernel)
theorem cw_X1_takeBack : Cond.code yX1_takeBack cX1_takeBack 2 (some .int) ∈ gtb := gm 712 (by decide +kernel) (by decide +kernel)
theorem ins_X1_takeBack : Cond.instanceMethod yX1_takeBack ∈ gtb := gm 710 (by decide +kernel) (by decide +kernel)
theorem sel_X1_takeBack : Cond.selects RX1 yX1_takeBack yX1_takeBack ∈ gtb := gm 711 (by decide +kernel) (by decide +kernel)
theorem cw_X2_init : Cond.code yX2_init cX2_init 2 none ∈ gtb := gm 213 (by decide +kernel) (by decide +kernel)
theorem ins_X2_init : Cond.instanceMethod yX2_init ∈ gtb := gm 212 (by decide +kernel) (by decide +kernel)
theorem cw_X2_shortest : Cond.code yX2_shortest cX2_shortest 6 (some .int) ∈ gtb := gm 515 (by decide +kernel) (by decide +kernel)
theorem ins_X2_shortest : Cond.instanceMethod yX2_shortest ∈ gtb := gm 513 (by decide +kernel) (by decide +kernel)
theorem sel_X2_shortest : Cond.selects RX2 yX2_shortest yX2_shortest ∈ gtb := gm 514 (by decide +kernel) (by decide +kernel)
theorem cw_X2_howMany : Cond.code yX2_howMany cX2_howMany 4 (some .int) ∈ gtb := gm 563 (by decide +kernel) (by decide +kernel)
theorem ins_X2_howMany : Cond.instanceMethod yX2_howMany ∈ gtb := gm 561 (by decide +kernel) (by decide +kernel)
theorem sel_X2_howMany : Cond.selects RX2 yX2_howMany yX2_howMany ∈ gtb := gm 562 (by decide +kernel) (by decide +kernel)
theorem cw_X2_callOfRow : Cond.code yX2_callOfRow cX2_callOfRow 2 (some .int) ∈ gtb := gm 554 (by decide +kernel) (by decide +kernel)
theorem ins_X2_callOfRow : Cond.instanceMethod yX2_callOfRow ∈ gtb := gm 552 (by decide +kernel) (by decide +kernel)
theorem sel_X2_callOfRow : Cond.selects RX2 yX2_callOfRow yX2_callOfRow ∈ gtb := gm 553 (by decide +kernel) (by decide +kernel)
theorem cw_X2_start : Cond.code yX2_start cX2_start 5 none ∈ gtb := gm 519 (by decide +kernel) (by decide +kernel)
theorem ins_X2_start : Cond.instanceMethod yX2_start ∈ gtb := gm 518 (by decide +kernel) (by decide +kernel)
theorem sel_X2_start : Cond.selects RX2 yX2_start yX2_start ∈ gtb := gm 8 (by decide +kernel) (by decide +kernel)
theorem cw_X2_rowsOfLength : Cond.code yX2_rowsOfLength cX2_rowsOfLength 2 (some .int) ∈ gtb := gm 530 (by decide +kernel) (by decide +kernel)
theorem ins_X2_rowsOfLength : Cond.instanceMethod yX2_rowsOfLength ∈ gtb := gm 529 (by decide +kernel) (by decide +kernel)
theorem sel_X2_rowsOfLength : Cond.selects RX2 yX2_rowsOfLength yX2_rowsOfLength ∈ gtb := gm 9 (by decide +kernel) (by decide +kernel)
theorem cw_X2_walk : Cond.code yX2_walk cX2_walk 4 (some .int) ∈ gtb := gm 538 (by decide +kernel) (by decide +kernel)
theorem sta_X2_walk : Cond.static yX2_walk ∈ gtb := gm 537 (by decide +kernel) (by decide +kernel)
theorem cw_X2_mayCome : Cond.code yX2_mayCome cX2_mayCome 3 (some .boolean) ∈ gtb := gm 542 (by decide +kernel) (by decide +kernel)
theorem ins_X2_mayCome : Cond.instanceMethod yX2_mayCome ∈ gtb := gm 541 (by decide +kernel) (by decide +kernel)
theorem sel_X2_mayCome : Cond.selects RX2 yX2_mayCome yX2_mayCome ∈ gtb := gm 11 (by decide +kernel) (by decide +kernel)
theorem cw_X2_step : Cond.code yX2_step cX2_step 6 none ∈ gtb := gm 546 (by decide +kernel) (by decide +kernel)
theorem ins_X2_step : Cond.instanceMethod yX2_step ∈ gtb := gm 545 (by decide +kernel) (by decide +kernel)
theorem sel_X2_step : Cond.selects RX2 yX2_step yX2_step ∈ gtb := gm 12 (by decide +kernel) (by decide +kernel)
theorem cw_X2_isGoalBehind : Cond.code yX2_isGoalBehind cX2_isGoalBehind 6 (some .boolean) ∈ gtb := gm 534 (by decide +kernel) (by decide +kernel)
theorem ins_X2_isGoalBehind : Cond.instanceMethod yX2_isGoalBehind ∈ gtb := gm 533 (by decide +kernel) (by decide +kernel)
theorem sel_X2_isGoalBehind : Cond.selects RX2 yX2_isGoalBehind yX2_isGoalBehind ∈ gtb := gm 10 (by decide +kernel) (by decide +kernel)
theorem cw_X3_init : Cond.code yX3_init cX3_init 2 none ∈ gtb := gm 94 (by decide +kernel) (by decide +kernel)
theorem ins_X3_init : Cond.instanceMethod yX3_init ∈ gtb := gm 93 (by decide +kernel) (by decide +kernel)
theorem cw_X3_copyFrom : Cond.code yX3_copyFrom cX3_copyFrom 3 none ∈ gtb := gm 290 (by decide +kernel) (by decide +kernel)
theorem ins_X3_copyFrom : Cond.instanceMethod yX3_copyFrom ∈ gtb := gm 288 (by decide +kernel) (by decide +kernel)
theorem sel_X3_copyFrom : Cond.selects RX3 yX3_copyFrom yX3_copyFrom ∈ gtb := gm 289 (by decide +kernel) (by decide +kernel)
theorem cw_X3_addDancer : Cond.code yX3_addDancer cX3_addDancer 3 (some .int) ∈ gtb := gm 302 (by decide +kernel) (by decide +kernel)
theorem ins_X3_addDancer : Cond.instanceMethod yX3_addDancer ∈ gtb := gm 300 (by decide +kernel) (by decide +kernel)
theorem sel_X3_addDancer : Cond.selects RX3 yX3_addDancer yX3_addDancer ∈ gtb := gm 301 (by decide +kernel) (by decide +kernel)
theorem cw_X3_addCall : Cond.code yX3_addCall cX3_addCall 1 (some .int) ∈ gtb := gm 336 (by decide +kernel) (by decide +kernel)
theorem ins_X3_addCall : Cond.instanceMethod yX3_addCall ∈ gtb := gm 334 (by decide +kernel) (by decide +kernel)
theorem sel_X3_addCall : Cond.selects RX3 yX3_addCall yX3_addCall ∈ gtb := gm 335 (by decide +kernel) (by decide +kernel)
theorem cw_X3_addCallThatGoes : Cond.code yX3_addCallThatGoes cX3_addCallThatGoes 3 (some .int) ∈ gtb := gm 700 (by decide +kernel) (by decide +kernel)
theorem ins_X3_addCallThatGoes : Cond.instanceMethod yX3_addCallThatGoes ∈ gtb := gm 698 (by decide +kernel) (by decide +kernel)
theorem sel_X3_addCallThatGoes : Cond.selects RX3 yX3_addCallThatGoes yX3_addCallThatGoes ∈ gtb := gm 699 (by decide +kernel) (by decide +kernel)
theorem cw_X3_exchangeGoals : Cond.code yX3_exchangeGoals cX3_exchangeGoals 6 (some .int) ∈ gtb := gm 348 (by decide +kernel) (by decide +kernel)
theorem ins_X3_exchangeGoals : Cond.instanceMethod yX3_exchangeGoals ∈ gtb := gm 346 (by decide +kernel) (by decide +kernel)
theorem sel_X3_exchangeGoals : Cond.selects RX3 yX3_exchangeGoals yX3_exchangeGoals ∈ gtb := gm 347 (by decide +kernel) (by decide +kernel)
theorem cw_X3_setTurn : Cond.code yX3_setTurn cX3_setTurn 5 (some .int) ∈ gtb := gm 360 (by decide +kernel) (by decide +kernel)
theorem ins_X3_setTurn : Cond.instanceMethod yX3_setTurn ∈ gtb := gm 358 (by decide +kernel) (by decide +kernel)
theorem sel_X3_setTurn : Cond.selects RX3 yX3_setTurn yX3_setTurn ∈ gtb := gm 359 (by decide +kernel) (by decide +kernel)
theorem cw_X3_setWant : Cond.code yX3_setWant cX3_setWant 5 (some .int) ∈ gtb := gm 368 (by decide +kernel) (by decide +kernel)
theorem ins_X3_setWant : Cond.instanceMethod yX3_setWant ∈ gtb := gm 366 (by decide +kernel) (by decide +kernel)
theorem sel_X3_setWant : Cond.selects RX3 yX3_setWant yX3_setWant ∈ gtb := gm 367 (by decide +kernel) (by decide +kernel)
theorem cw_X3_addJoined : Cond.code yX3_addJoined cX3_addJoined 4 (some .int) ∈ gtb := gm 376 (by decide +kernel) (by decide +kernel)
theorem ins_X3_addJoined : Cond.instanceMethod yX3_addJoined ∈ gtb := gm 374 (by decide +kernel) (by decide +kernel)
theorem sel_X3_addJoined : Cond.selects RX3 yX3_addJoined yX3_addJoined ∈ gtb := gm 375 (by decide +kernel) (by decide +kernel)
theorem cw_X3_addTurnedBack : Cond.code yX3_addTurnedBack cX3_addTurnedBack 3 (some .int) ∈ gtb := gm 393 (by decide +kernel) (by decide +kernel)
theorem ins_X3_addTurnedBack : Cond.instanceMethod yX3_addTurnedBack ∈ gtb := gm 391 (by decide +kernel) (by decide +kernel)
theorem sel_X3_addTurnedBack : Cond.selects RX3 yX3_addTurnedBack yX3_addTurnedBack ∈ gtb := gm 392 (by decide +kernel) (by decide +kernel)
theorem cw_X3_give : Cond.code yX3_give cX3_give 2 (some .int) ∈ gtb := gm 405 (by decide +kernel) (by decide +kernel)
theorem ins_X3_give : Cond.instanceMethod yX3_give ∈ gtb := gm 403 (by decide +kernel) (by decide +kernel)
theorem sel_X3_give : Cond.selects RX3 yX3_give yX3_give ∈ gtb := gm 404 (by decide +kernel) (by decide +kernel)
theorem cw_X3_sendHome : Cond.code yX3_sendHome cX3_sendHome 2 (some .int) ∈ gtb := gm 432 (by decide +kernel) (by decide +kernel)
theorem ins_X3_sendHome : Cond.instanceMethod yX3_sendHome ∈ gtb := gm 430 (by decide +kernel) (by decide +kernel)
theorem sel_X3_sendHome : Cond.selects RX3 yX3_sendHome yX3_sendHome ∈ gtb := gm 431 (by decide +kernel) (by decide +kernel)
theorem cw_X3_addToPlan : Cond.code yX3_addToPlan cX3_addToPlan 2 (some .int) ∈ gtb := gm 572 (by decide +kernel) (by decide +kernel)
theorem ins_X3_addToPlan : Cond.instanceMethod yX3_addToPlan ∈ gtb := gm 570 (by decide +kernel) (by decide +kernel)
theorem sel_X3_addToPlan : Cond.selects RX3 yX3_addToPlan yX3_addToPlan ∈ gtb := gm 571 (by decide +kernel) (by decide +kernel)
theorem cw_X3_emptyPlan : Cond.code yX3_emptyPlan cX3_emptyPlan 2 (some .int) ∈ gtb := gm 580 (by decide +kernel) (by decide +kernel)
theorem ins_X3_emptyPlan : Cond.instanceMethod yX3_emptyPlan ∈ gtb := gm 578 (by decide +kernel) (by decide +kernel)
theorem sel_X3_emptyPlan : Cond.selects RX3 yX3_emptyPlan yX3_emptyPlan ∈ gtb := gm 579 (by decide +kernel) (by decide +kernel)
theorem cw_X3_followPlan : Cond.code yX3_followPlan cX3_followPlan 3 (some .int) ∈ gtb := gm 588 (by decide +kernel) (by decide +kernel)
theorem ins_X3_followPlan : Cond.instanceMethod yX3_followPlan ∈ gtb := gm 586 (by decide +kernel) (by decide +kernel)
theorem sel_X3_followPlan : Cond.selects RX3 yX3_followPlan yX3_followPlan ∈ gtb := gm 587 (by decide +kernel) (by decide +kernel)
theorem cw_X3_askPlanned : Cond.code yX3_askPlanned cX3_askPlanned 3 (some .int) ∈ gtb := gm 596 (by decide +kernel) (by decide +kernel)
theorem ins_X3_askPlanned : Cond.instanceMethod yX3_askPlanned ∈ gtb := gm 594 (by decide +kernel) (by decide +kernel)
theorem sel_X3_askPlanned : Cond.selects RX3 yX3_askPlanned yX3_askPlanned ∈ gtb := gm 595 (by decide +kernel) (by decide +kernel)
theorem cw_X3_askDancer : Cond.code yX3_askDancer cX3_askDancer 3 (some .int) ∈ gtb := gm 444 (by decide +kernel) (by decide +kernel)
theorem ins_X3_askDancer : Cond.instanceMethod yX3_askDancer ∈ gtb := gm 442 (by decide +kernel) (by decide +kernel)
theorem sel_X3_askDancer : Cond.selects RX3 yX3_askDancer yX3_askDancer ∈ gtb := gm 443 (by decide +kernel) (by decide +kernel)
theorem cw_X3_askSpotOfCall : Cond.code yX3_askSpotOfCall cX3_askSpotOfCall 4 (some .int) ∈ gtb := gm 472 (by decide +kernel) (by decide +kernel)
theorem ins_X3_askSpotOfCall : Cond.instanceMethod yX3_askSpotOfCall ∈ gtb := gm 470 (by decide +kernel) (by decide +kernel)
theorem sel_X3_askSpotOfCall : Cond.selects RX3 yX3_askSpotOfCall yX3_askSpotOfCall ∈ gtb := gm 471 (by decide +kernel) (by decide +kernel)
theorem cw_X3_askCall : Cond.code yX3_askCall cX3_askCall 3 (some .int) ∈ gtb := gm 480 (by decide +kernel) (by decide +kernel)
theorem ins_X3_askCall : Cond.instanceMethod yX3_askCall ∈ gtb := gm 478 (by decide +kernel) (by decide +kernel)
theorem sel_X3_askCall : Cond.selects RX3 yX3_askCall yX3_askCall ∈ gtb := gm 479 (by decide +kernel) (by decide +kernel)
theorem cw_X3_askCount : Cond.code yX3_askCount cX3_askCount 2 (some .int) ∈ gtb := gm 605 (by decide +kernel) (by decide +kernel)
theorem ins_X3_askCount : Cond.instanceMethod yX3_askCount ∈ gtb := gm 603 (by decide +kernel) (by decide +kernel)
theorem sel_X3_askCount : Cond.selects RX3 yX3_askCount yX3_askCount ∈ gtb := gm 604 (by decide +kernel) (by decide +kernel)
theorem cw_X3_whoIsOn : Cond.code yX3_whoIsOn cX3_whoIsOn 3 (some .int) ∈ gtb := gm 309 (by decide +kernel) (by decide +kernel)
theorem ins_X3_whoIsOn : Cond.instanceMethod yX3_whoIsOn ∈ gtb := gm 307 (by decide +kernel) (by decide +kernel)
theorem sel_X3_whoIsOn : Cond.selects RX3 yX3_whoIsOn yX3_whoIsOn ∈ gtb := gm 308 (by decide +kernel) (by decide +kernel)
theorem cw_X3_isHome : Cond.code yX3_isHome cX3_isHome 3 (some .boolean) ∈ gtb := gm 313 (by decide +kernel) (by decide +kernel)
theorem ins_X3_isHome : Cond.instanceMethod yX3_isHome ∈ gtb := gm 312 (by decide +kernel) (by decide +kernel)
theorem sel_X3_isHome : Cond.selects RX3 yX3_isHome yX3_isHome ∈ gtb := gm 0 (by decide +kernel) (by decide +kernel)
theorem cw_X3_isSpotOfCall : Cond.code yX3_isSpotOfCall cX3_isSpotOfCall 3 (some .boolean) ∈ gtb := gm 352 (by decide +kernel) (by decide +kernel)
theorem ins_X3_isSpotOfCall : Cond.instanceMethod yX3_isSpotOfCall ∈ gtb := gm 351 (by decide +kernel) (by decide +kernel)
theorem sel_X3_isSpotOfCall : Cond.selects RX3 yX3_isSpotOfCall yX3_isSpotOfCall ∈ gtb := gm 3 (by decide +kernel) (by decide +kernel)
theorem cw_X3_move : Cond.code yX3_move cX3_move 6 (some .int) ∈ gtb := gm 420 (by decide +kernel) (by decide +kernel)
theorem ins_X3_move : Cond.instanceMethod yX3_move ∈ gtb := gm 419 (by decide +kernel) (by decide +kernel)
theorem sel_X3_move : Cond.selects RX3 yX3_move yX3_move ∈ gtb := gm 4 (by decide +kernel) (by decide +kernel)
theorem cw_X3_partnerOf : Cond.code yX3_partnerOf cX3_partnerOf 3 (some .int) ∈ gtb := gm 448 (by decide +kernel) (by decide +kernel)
theorem ins_X3_partnerOf : Cond.instanceMethod yX3_partnerOf ∈ gtb := gm 447 (by decide +kernel) (by decide +kernel)
theorem sel_X3_partnerOf : Cond.selects RX3 yX3_partnerOf yX3_partnerOf ∈ gtb := gm 6 (by decide +kernel) (by decide +kernel)
theorem cw_X3_isPaired : Cond.code yX3_isPaired cX3_isPaired 3 (some .boolean) ∈ gtb := gm 452 (by decide +kernel) (by decide +kernel)
theorem ins_X3_isPaired : Cond.instanceMethod yX3_isPaired ∈ gtb := gm 451 (by decide +kernel) (by decide +kernel)
theorem sel_X3_isPaired : Cond.selects RX3 yX3_isPaired yX3_isPaired ∈ gtb := gm 7 (by decide +kernel) (by decide +kernel)
theorem cw_X3_howManyAreHome : Cond.code yX3_howManyAreHome cX3_howManyAreHome 3 (some .int) ∈ gtb := gm 436 (by decide +kernel) (by decide +kernel)
theorem ins_X3_howManyAreHome : Cond.instanceMethod yX3_howManyAreHome ∈ gtb := gm 435 (by decide +kernel) (by decide +kernel)
theorem sel_X3_howManyAreHome : Cond.selects RX3 yX3_howManyAreHome yX3_howManyAreHome ∈ gtb := gm 5 (by decide +kernel) (by decide +kernel)
theorem cw_X3_howManyPartnersArePaired : Cond.code yX3_howManyPartnersArePaired cX3_howManyPartnersArePaired 3 (some .int) ∈ gtb := gm 609 (by decide +kernel) (by decide +kernel)
theorem ins_X3_howManyPartnersArePaired : Cond.instanceMethod yX3_howManyPartnersArePaired ∈ gtb := gm 608 (by decide +kernel) (by decide +kernel)
theorem sel_X3_howManyPartnersArePaired : Cond.selects RX3 yX3_howManyPartnersArePaired yX3_howManyPartnersArePaired ∈ gtb := gm 13 (by decide +kernel) (by decide +kernel)
theorem cw_X3_callsThatFit : Cond.code yX3_callsThatFit cX3_callsThatFit 4 (some .int) ∈ gtb := gm 613 (by decide +kernel) (by decide +kernel)
theorem ins_X3_callsThatFit : Cond.instanceMethod yX3_callsThatFit ∈ gtb := gm 612 (by decide +kernel) (by decide +kernel)
theorem sel_X3_callsThatFit : Cond.selects RX3 yX3_callsThatFit yX3_callsThatFit ∈ gtb := gm 14 (by decide +kernel) (by decide +kernel)
theorem cw_X4_init : Cond.code yX4_init cX4_init 1 none ∈ gtb := gm 178 (by decide +kernel) (by decide +kernel)
theorem ins_X4_init : Cond.instanceMethod yX4_init ∈ gtb := gm 177 (by decide +kernel) (by decide +kernel)
theorem cw_X4_append : Cond.code yX4_append cX4_append 2 (some .int) ∈ gtb := gm 621 (by decide +kernel) (by decide +kernel)
theorem ins_X4_append : Cond.instanceMethod yX4_append ∈ gtb := gm 619 (by decide +kernel) (by decide +kernel)
theorem sel_X4_append : Cond.selects RX4 yX4_append yX4_append ∈ gtb := gm 620 (by decide +kernel) (by decide +kernel)
theorem cw_X4_empty : Cond.code yX4_empty cX4_empty 2 (some .int) ∈ gtb := gm 630 (by decide +kernel) (by decide +kernel)
theorem ins_X4_empty : Cond.instanceMethod yX4_empty ∈ gtb := gm 628 (by decide +kernel) (by decide +kernel)
theorem sel_X4_empty : Cond.selects RX4 yX4_empty yX4_empty ∈ gtb := gm 629 (by decide +kernel) (by decide +kernel)
theorem cw_X4_restart : Cond.code yX4_restart cX4_restart 1 none ∈ gtb := gm 642 (by decide +kernel) (by decide +kernel)
theorem ins_X4_restart : Cond.instanceMethod yX4_restart ∈ gtb := gm 640 (by decide +kernel) (by decide +kernel)
theorem sel_X4_restart : Cond.selects RX4 yX4_restart yX4_restart ∈ gtb := gm 641 (by decide +kernel) (by decide +kernel)
theorem cw_X4_hasMore : Cond.code yX4_hasMore cX4_hasMore 1 (some .boolean) ∈ gtb := gm 689 (by decide +kernel) (by decide +kernel)
theorem ins_X4_hasMore : Cond.instanceMethod yX4_hasMore ∈ gtb := gm 687 (by decide +kernel) (by decide +kernel)
theorem sel_X4_hasMore : Cond.selects RX4 yX4_hasMore yX4_hasMore ∈ gtb := gm 688 (by decide +kernel) (by decide +kernel)
theorem cw_X4_firstFault : Cond.code yX4_firstFault cX4_firstFault 3 (some .int) ∈ gtb := gm 638 (by decide +kernel) (by decide +kernel)
theorem ins_X4_firstFault : Cond.instanceMethod yX4_firstFault ∈ gtb := gm 636 (by decide +kernel) (by decide +kernel)
theorem sel_X4_firstFault : Cond.selects RX4 yX4_firstFault yX4_firstFault ∈ gtb := gm 637 (by decide +kernel) (by decide +kernel)
theorem cw_X4_readOrder : Cond.code yX4_readOrder cX4_readOrder 3 (some .boolean) ∈ gtb := gm 646 (by decide +kernel) (by decide +kernel)
theorem ins_X4_readOrder : Cond.instanceMethod yX4_readOrder ∈ gtb := gm 644 (by decide +kernel) (by decide +kernel)
theorem sel_X4_readOrder : Cond.selects RX4 yX4_readOrder yX4_readOrder ∈ gtb := gm 645 (by decide +kernel) (by decide +kernel)
theorem cw_X4_numbersBehind : Cond.code yX4_numbersBehind cX4_numbersBehind 1 (some .int) ∈ gtb := gm 657 (by decide +kernel) (by decide +kernel)
theorem sta_X4_numbersBehind : Cond.static yX4_numbersBehind ∈ gtb := gm 656 (by decide +kernel) (by decide +kernel)
theorem cw_X4_readNumbers : Cond.code yX4_readNumbers cX4_readNumbers 3 (some .boolean) ∈ gtb := gm 685 (by decide +kernel) (by decide +kernel)
theorem ins_X4_readNumbers : Cond.instanceMethod yX4_readNumbers ∈ gtb := gm 684 (by decide +kernel) (by decide +kernel)
theorem sel_X4_readNumbers : Cond.selects RX4 yX4_readNumbers yX4_readNumbers ∈ gtb := gm 23 (by decide +kernel) (by decide +kernel)
theorem cw_X4_readCycles : Cond.code yX4_readCycles cX4_readCycles 3 (some .boolean) ∈ gtb := gm 665 (by decide +kernel) (by decide +kernel)
theorem ins_X4_readCycles : Cond.instanceMethod yX4_readCycles ∈ gtb := gm 664 (by decide +kernel) (by decide +kernel)
theorem sel_X4_readCycles : Cond.selects RX4 yX4_readCycles yX4_readCycles ∈ gtb := gm 18 (by decide +kernel) (by decide +kernel)
theorem cw_X4_readCycle : Cond.code yX4_readCycle cX4_readCycle 6 (some .boolean) ∈ gtb := gm 669 (by decide +kernel) (by decide +kernel)
theorem ins_X4_readCycle : Cond.instanceMethod yX4_readCycle ∈ gtb := gm 668 (by decide +kernel) (by decide +kernel)
theorem sel_X4_readCycle : Cond.selects RX4 yX4_readCycle yX4_readCycle ∈ gtb := gm 19 (by decide +kernel) (by decide +kernel)
theorem cw_X4_takesSpot : Cond.code yX4_takesSpot cX4_takesSpot 3 (some .boolean) ∈ gtb := gm 681 (by decide +kernel) (by decide +kernel)
theorem ins_X4_takesSpot : Cond.instanceMethod yX4_takesSpot ∈ gtb := gm 680 (by decide +kernel) (by decide +kernel)
theorem sel_X4_takesSpot : Cond.selects RX4 yX4_takesSpot yX4_takesSpot ∈ gtb := gm 22 (by decide +kernel) (by decide +kernel)
theorem cw_X4_readNumber : Cond.code yX4_readNumber cX4_readNumber 3 (some .int) ∈ gtb := gm 673 (by decide +kernel) (by decide +kernel)
theorem ins_X4_readNumber : Cond.instanceMethod yX4_readNumber ∈ gtb := gm 672 (by decide +kernel) (by decide +kernel)
theorem sel_X4_readNumber : Cond.selects RX4 yX4_readNumber yX4_readNumber ∈ gtb := gm 20 (by decide +kernel) (by decide +kernel)
theorem cw_X4_isFigure : Cond.code yX4_isFigure cX4_isFigure 1 (some .boolean) ∈ gtb := gm 677 (by decide +kernel) (by decide +kernel)
theorem ins_X4_isFigure : Cond.instanceMethod yX4_isFigure ∈ gtb := gm 676 (by decide +kernel) (by decide +kernel)
theorem sel_X4_isFigure : Cond.selects RX4 yX4_isFigure yX4_isFigure ∈ gtb := gm 21 (by decide +kernel) (by decide +kernel)
theorem cw_X4_nextSign : Cond.code yX4_nextSign cX4_nextSign 1 (some .int) ∈ gtb := gm 650 (by decide +kernel) (by decide +kernel)
theorem ins_X4_nextSign : Cond.instanceMethod yX4_nextSign ∈ gtb := gm 649 (by decide +kernel) (by decide +kernel)
theorem sel_X4_nextSign : Cond.selects RX4 yX4_nextSign yX4_nextSign ∈ gtb := gm 15 (by decide +kernel) (by decide +kernel)
theorem cw_X4_skipBlanks : Cond.code yX4_skipBlanks cX4_skipBlanks 1 none ∈ gtb := gm 654 (by decide +kernel) (by decide +kernel)
theorem ins_X4_skipBlanks : Cond.instanceMethod yX4_skipBlanks ∈ gtb := gm 653 (by decide +kernel) (by decide +kernel)
theorem sel_X4_skipBlanks : Cond.selects RX4 yX4_skipBlanks yX4_skipBlanks ∈ gtb := gm 16 (by decide +kernel) (by decide +kernel)
theorem cw_X4_fails : Cond.code yX4_fails cX4_fails 2 (some .boolean) ∈ gtb := gm 661 (by decide +kernel) (by decide +kernel)
theorem ins_X4_fails : Cond.instanceMethod yX4_fails ∈ gtb := gm 660 (by decide +kernel) (by decide +kernel)
theorem sel_X4_fails : Cond.selects RX4 yX4_fails yX4_fails ∈ gtb := gm 17 (by decide +kernel) (by decide +kernel)
theorem cw_X5_init : Cond.code yX5_init cX5_init 1 none ∈ gtb := gm 86 (by decide +kernel) (by decide +kernel)
theorem ins_X5_init : Cond.instanceMethod yX5_init ∈ gtb := gm 85 (by decide +kernel) (by decide +kernel)
theorem cw_X5_dancer : Cond.code yX5_dancer cX5_dancer 3 (some .int) ∈ gtb := gm 282 (by decide +kernel) (by decide +kernel)
theorem ins_X5_dancer : Cond.instanceMethod yX5_dancer ∈ gtb := gm 280 (by decide +kernel) (by decide +kernel)
theorem sel_X5_dancer : Cond.selects RX5 yX5_dancer yX5_dancer ∈ gtb := gm 281 (by decide +kernel) (by decide +kernel)
theorem cw_X5_call : Cond.code yX5_call cX5_call 1 (some .int) ∈ gtb := gm 332 (by decide +kernel) (by decide +kernel)
theorem ins_X5_call : Cond.instanceMethod yX5_call ∈ gtb := gm 330 (by decide +kernel) (by decide +kernel)
theorem sel_X5_call : Cond.selects RX5 yX5_call yX5_call ∈ gtb := gm 331 (by decide +kernel) (by decide +kernel)
theorem cw_X5_exchanges : Cond.code yX5_exchanges cX5_exchanges 4 (some .int) ∈ gtb := gm 344 (by decide +kernel) (by decide +kernel)
theorem ins_X5_exchanges : Cond.instanceMethod yX5_exchanges ∈ gtb := gm 342 (by decide +kernel) (by decide +kernel)
theorem sel_X5_exchanges : Cond.selects RX5 yX5_exchanges yX5_exchanges ∈ gtb := gm 343 (by decide +kernel) (by decide +kernel)
theorem cw_X5_turns : Cond.code yX5_turns cX5_turns 4 (some .int) ∈ gtb := gm 356 (by decide +kernel) (by decide +kernel)
theorem ins_X5_turns : Cond.instanceMethod yX5_turns ∈ gtb := gm 354 (by decide +kernel) (by decide +kernel)
theorem sel_X5_turns : Cond.selects RX5 yX5_turns yX5_turns ∈ gtb := gm 355 (by decide +kernel) (by decide +kernel)
theorem cw_X5_wants : Cond.code yX5_wants cX5_wants 4 (some .int) ∈ gtb := gm 364 (by decide +kernel) (by decide +kernel)
theorem ins_X5_wants : Cond.instanceMethod yX5_wants ∈ gtb := gm 362 (by decide +kernel) (by decide +kernel)
theorem sel_X5_wants : Cond.selects RX5 yX5_wants yX5_wants ∈ gtb := gm 363 (by decide +kernel) (by decide +kernel)
theorem cw_X5_joins : Cond.code yX5_joins cX5_joins 3 (some .int) ∈ gtb := gm 372 (by decide +kernel) (by decide +kernel)
theorem ins_X5_joins : Cond.instanceMethod yX5_joins ∈ gtb := gm 370 (by decide +kernel) (by decide +kernel)
theorem sel_X5_joins : Cond.selects RX5 yX5_joins yX5_joins ∈ gtb := gm 371 (by decide +kernel) (by decide +kernel)
theorem cw_X5_backwards : Cond.code yX5_backwards cX5_backwards 2 (some .int) ∈ gtb := gm 389 (by decide +kernel) (by decide +kernel)
theorem ins_X5_backwards : Cond.instanceMethod yX5_backwards ∈ gtb := gm 387 (by decide +kernel) (by decide +kernel)
theorem sel_X5_backwards : Cond.selects RX5 yX5_backwards yX5_backwards ∈ gtb := gm 388 (by decide +kernel) (by decide +kernel)
theorem cw_X5_gives : Cond.code yX5_gives cX5_gives 2 (some .int) ∈ gtb := gm 401 (by decide +kernel) (by decide +kernel)
theorem ins_X5_gives : Cond.instanceMethod yX5_gives ∈ gtb := gm 399 (by decide +kernel) (by decide +kernel)
theorem sel_X5_gives : Cond.selects RX5 yX5_gives yX5_gives ∈ gtb := gm 400 (by decide +kernel) (by decide +kernel)
theorem cw_X5_home : Cond.code yX5_home cX5_home 1 (some .int) ∈ gtb := gm 428 (by decide +kernel) (by decide +kernel)
theorem ins_X5_home : Cond.instanceMethod yX5_home ∈ gtb := gm 426 (by decide +kernel) (by decide +kernel)
theorem sel_X5_home : Cond.selects RX5 yX5_home yX5_home ∈ gtb := gm 427 (by decide +kernel) (by decide +kernel)
theorem cw_X5_of : Cond.code yX5_of cX5_of 3 (some .int) ∈ gtb := gm 440 (by decide +kernel) (by decide +kernel)
theorem ins_X5_of : Cond.instanceMethod yX5_of ∈ gtb := gm 438 (by decide +kernel) (by decide +kernel)
theorem sel_X5_of : Cond.selects RX5 yX5_of yX5_of ∈ gtb := gm 439 (by decide +kernel) (by decide +kernel)
theorem cw_X5_on : Cond.code yX5_on cX5_on 2 (some .int) ∈ gtb := gm 462 (by decide +kernel) (by decide +kernel)
theorem ins_X5_on : Cond.instanceMethod yX5_on ∈ gtb := gm 460 (by decide +kernel) (by decide +kernel)
theorem sel_X5_on : Cond.selects RX5 yX5_on yX5_on ∈ gtb := gm 461 (by decide +kernel) (by decide +kernel)
theorem cw_X5_at : Cond.code yX5_at cX5_at 4 (some .int) ∈ gtb := gm 468 (by decide +kernel) (by decide +kernel)
theorem ins_X5_at : Cond.instanceMethod yX5_at ∈ gtb := gm 466 (by decide +kernel) (by decide +kernel)
theorem sel_X5_at : Cond.selects RX5 yX5_at yX5_at ∈ gtb := gm 467 (by decide +kernel) (by decide +kernel)
theorem cw_X5_tells : Cond.code yX5_tells cX5_tells 3 (some .int) ∈ gtb := gm 476 (by decide +kernel) (by decide +kernel)
theorem ins_X5_tells : Cond.instanceMethod yX5_tells ∈ gtb := gm 474 (by decide +kernel) (by decide +kernel)
theorem sel_X5_tells : Cond.selects RX5 yX5_tells yX5_tells ∈ gtb := gm 475 (by decide +kernel) (by decide +kernel)
theorem cw_X5_finds : Cond.code yX5_finds cX5_finds 4 (some .int) ∈ gtb := gm 508 (by decide +kernel) (by decide +kernel)
theorem ins_X5_finds : Cond.instanceMethod yX5_finds ∈ gtb := gm 506 (by decide +kernel) (by decide +kernel)
theorem sel_X5_finds : Cond.selects RX5 yX5_finds yX5_finds ∈ gtb := gm 507 (by decide +kernel) (by decide +kernel)
theorem cw_X5_found : Cond.code yX5_found cX5_found 5 (some .int) ∈ gtb := gm 550 (by decide +kernel) (by decide +kernel)
theorem ins_X5_found : Cond.instanceMethod yX5_found ∈ gtb := gm 548 (by decide +kernel) (by decide +kernel)
theorem sel_X5_found : Cond.selects RX5 yX5_found yX5_found ∈ gtb := gm 549 (by decide +kernel) (by decide +kernel)
theorem cw_X5_rows : Cond.code yX5_rows cX5_rows 4 (some .int) ∈ gtb := gm 559 (by decide +kernel) (by decide +kernel)
theorem ins_X5_rows : Cond.instanceMethod yX5_rows ∈ gtb := gm 557 (by decide +kernel) (by decide +kernel)
theorem sel_X5_rows : Cond.selects RX5 yX5_rows yX5_rows ∈ gtb := gm 558 (by decide +kernel) (by decide +kernel)
theorem cw_X5_plans : Cond.code yX5_plans cX5_plans 2 (some .int) ∈ gtb := gm 568 (by decide +kernel) (by decide +kernel)
theorem ins_X5_plans : Cond.instanceMethod yX5_plans ∈ gtb := gm 566 (by decide +kernel) (by decide +kernel)
theorem sel_X5_plans : Cond.selects RX5 yX5_plans yX5_plans ∈ gtb := gm 567 (by decide +kernel) (by decide +kernel)
theorem cw_X5_scraps : Cond.code yX5_scraps cX5_scraps 1 (some .int) ∈ gtb := gm 576 (by decide +kernel) (by decide +kernel)
theorem ins_X5_scraps : Cond.instanceMethod yX5_scraps ∈ gtb := gm 574 (by decide +kernel) (by decide +kernel)
theorem sel_X5_scraps : Cond.selects RX5 yX5_scraps yX5_scraps ∈ gtb := gm 575 (by decide +kernel) (by decide +kernel)
theorem cw_X5_judges : Cond.code yX5_judges cX5_judges 1 (some .int) ∈ gtb := gm 584 (by decide +kernel) (by decide +kernel)
theorem ins_X5_judges : Cond.instanceMethod yX5_judges ∈ gtb := gm 582 (by decide +kernel) (by decide +kernel)
theorem sel_X5_judges : Cond.selects RX5 yX5_judges yX5_judges ∈ gtb := gm 583 (by decide +kernel) (by decide +kernel)
theorem cw_X5_planned : Cond.code yX5_planned cX5_planned 3 (some .int) ∈ gtb := gm 592 (by decide +kernel) (by decide +kernel)
theorem ins_X5_planned : Cond.instanceMethod yX5_planned ∈ gtb := gm 590 (by decide +kernel) (by decide +kernel)
theorem sel_X5_planned : Cond.selects RX5 yX5_planned yX5_planned ∈ gtb := gm 591 (by decide +kernel) (by decide +kernel)
theorem cw_X5_count : Cond.code yX5_count cX5_count 2 (some .int) ∈ gtb := gm 601 (by decide +kernel) (by decide +kernel)
theorem ins_X5_count : Cond.instanceMethod yX5_count ∈ gtb := gm 599 (by decide +kernel) (by decide +kernel)
theorem sel_X5_count : Cond.selects RX5 yX5_count yX5_count ∈ gtb := gm 600 (by decide +kernel) (by decide +kernel)
theorem cw_X5_type : Cond.code yX5_type cX5_type 2 (some .int) ∈ gtb := gm 617 (by decide +kernel) (by decide +kernel)
theorem ins_X5_type : Cond.instanceMethod yX5_type ∈ gtb := gm 615 (by decide +kernel) (by decide +kernel)
theorem sel_X5_type : Cond.selects RX5 yX5_type yX5_type ∈ gtb := gm 616 (by decide +kernel) (by decide +kernel)
theorem cw_X5_clear : Cond.code yX5_clear cX5_clear 1 (some .int) ∈ gtb := gm 626 (by decide +kernel) (by decide +kernel)
theorem ins_X5_clear : Cond.instanceMethod yX5_clear ∈ gtb := gm 624 (by decide +kernel) (by decide +kernel)
theorem sel_X5_clear : Cond.selects RX5 yX5_clear yX5_clear ∈ gtb := gm 625 (by decide +kernel) (by decide +kernel)
theorem cw_X5_does : Cond.code yX5_does cX5_does 3 (some .int) ∈ gtb := gm 634 (by decide +kernel) (by decide +kernel)
theorem ins_X5_does : Cond.instanceMethod yX5_does ∈ gtb := gm 632 (by decide +kernel) (by decide +kernel)
theorem sel_X5_does : Cond.selects RX5 yX5_does yX5_does ∈ gtb := gm 633 (by decide +kernel) (by decide +kernel)
theorem cw_X5_back : Cond.code yX5_back cX5_back 1 (some .int) ∈ gtb := gm 708 (by decide +kernel) (by decide +kernel)
theorem ins_X5_back : Cond.instanceMethod yX5_back ∈ gtb := gm 706 (by decide +kernel) (by decide +kernel)
theorem sel_X5_back : Cond.selects RX5 yX5_back yX5_back ∈ gtb := gm 707 (by decide +kernel) (by decide +kernel)
theorem cw_X5_told : Cond.code yX5_told cX5_told 2 (some .int) ∈ gtb := gm 716 (by decide +kernel) (by decide +kernel)
theorem ins_X5_told : Cond.instanceMethod yX5_told ∈ gtb := gm 714 (by decide +kernel) (by decide +kernel)
theorem sel_X5_told : Cond.selects RX5 yX5_told yX5_told ∈ gtb := gm 715 (by decide +kernel) (by decide +kernel)
theorem cw_X5_digest : Cond.code yX5_digest cX5_digest 5 (some .long) ∈ gtb := gm 720 (by decide +kernel) (by decide +kernel)
theorem ins_X5_digest : Cond.instanceMethod yX5_digest ∈ gtb := gm 718 (by decide +kernel) (by decide +kernel)
theorem sel_X5_digest : Cond.selects RX5 yX5_digest yX5_digest ∈ gtb := gm 719 (by decide +kernel) (by decide +kernel)
theorem cw_X5_mixedWithCall : Cond.code yX5_mixedWithCall cX5_mixedWithCall 8 (some .long) ∈ gtb := gm 730 (by decide +kernel) (by decide +kernel)
theorem ins_X5_mixedWithCall : Cond.instanceMethod yX5_mixedWithCall ∈ gtb := gm 729 (by decide +kernel) (by decide +kernel)
theorem sel_X5_mixedWithCall : Cond.selects RX5 yX5_mixedWithCall yX5_mixedWithCall ∈ gtb := gm 25 (by decide +kernel) (by decide +kernel)
theorem cw_X5_mixed : Cond.code yX5_mixed cX5_mixed 3 (some .long) ∈ gtb := gm 725 (by decide +kernel) (by decide +kernel)
theorem sta_X5_mixed : Cond.static yX5_mixed ∈ gtb := gm 724 (by decide +kernel) (by decide +kernel)
theorem cw_X5_noted : Cond.code yX5_noted cX5_noted 2 (some .int) ∈ gtb := gm 328 (by decide +kernel) (by decide +kernel)
theorem ins_X5_noted : Cond.instanceMethod yX5_noted ∈ gtb := gm 327 (by decide +kernel) (by decide +kernel)
theorem sel_X5_noted : Cond.selects RX5 yX5_noted yX5_noted ∈ gtb := gm 2 (by decide +kernel) (by decide +kernel)
theorem cw_X5_settled : Cond.code yX5_settled cX5_settled 2 (some .int) ∈ gtb := gm 317 (by decide +kernel) (by decide +kernel)
theorem ins_X5_settled : Cond.instanceMethod yX5_settled ∈ gtb := gm 316 (by decide +kernel) (by decide +kernel)
theorem sel_X5_settled : Cond.selects RX5 yX5_settled yX5_settled ∈ gtb := gm 1 (by decide +kernel) (by decide +kernel)
theorem cw_X5_doOrder : Cond.code yX5_doOrder cX5_doOrder 2 (some .int) ∈ gtb := gm 696 (by decide +kernel) (by decide +kernel)
theorem ins_X5_doOrder : Cond.instanceMethod yX5_doOrder ∈ gtb := gm 695 (by decide +kernel) (by decide +kernel)
theorem sel_X5_doOrder : Cond.selects RX5 yX5_doOrder yX5_doOrder ∈ gtb := gm 24 (by decide +kernel) (by decide +kernel)
theorem cw_X5_isBelow : Cond.code yX5_isBelow cX5_isBelow 2 (some .boolean) ∈ gtb := gm 305 (by decide +kernel) (by decide +kernel)
theorem sta_X5_isBelow : Cond.static yX5_isBelow ∈ gtb := gm 304 (by decide +kernel) (by decide +kernel)
theorem cw_X5_isSearch : Cond.code yX5_isSearch cX5_isSearch 3 (some .boolean) ∈ gtb := gm 511 (by decide +kernel) (by decide +kernel)
theorem sta_X5_isSearch : Cond.static yX5_isSearch ∈ gtb := gm 510 (by decide +kernel) (by decide +kernel)
theorem cw_X5_arePaired : Cond.code yX5_arePaired cX5_arePaired 2 (some .boolean) ∈ gtb := gm 455 (by decide +kernel) (by decide +kernel)
theorem sta_X5_arePaired : Cond.static yX5_arePaired ∈ gtb := gm 454 (by decide +kernel) (by decide +kernel)
theorem cw_X5_heldSpots : Cond.code yX5_heldSpots cX5_heldSpots 4 (some .int) ∈ gtb := gm 408 (by decide +kernel) (by decide +kernel)
theorem sta_X5_heldSpots : Cond.static yX5_heldSpots ∈ gtb := gm 407 (by decide +kernel) (by decide +kernel)
theorem cw_X6_init : Cond.code yX6_init cX6_init 1 none ∈ gtb := gm 735 (by decide +kernel) (by decide +kernel)
theorem ins_X6_init : Cond.instanceMethod yX6_init ∈ gtb := gm 734 (by decide +kernel) (by decide +kernel)
theorem cw_X6_isIn : Cond.code yX6_isIn cX6_isIn 3 (some .boolean) ∈ gtb := gm 797 (by decide +kernel) (by decide +kernel)
theorem sta_X6_isIn : Cond.static yX6_isIn ∈ gtb := gm 796 (by decide +kernel) (by decide +kernel)
theorem cw_X6_refused : Cond.code yX6_refused cX6_refused 2 (some .int) ∈ gtb := gm 805 (by decide +kernel) (by decide +kernel)
theorem ins_X6_refused : Cond.instanceMethod yX6_refused ∈ gtb := gm 804 (by decide +kernel) (by decide +kernel)
theorem sel_X6_refused : Cond.selects RX6 yX6_refused yX6_refused ∈ gtb := gm 29 (by decide +kernel) (by decide +kernel)
theorem cw_X6_counted : Cond.code yX6_counted cX6_counted 2 (some .int) ∈ gtb := gm 921 (by decide +kernel) (by decide +kernel)
theorem ins_X6_counted : Cond.instanceMethod yX6_counted ∈ gtb := gm 920 (by decide +kernel) (by decide +kernel)
theorem sel_X6_counted : Cond.selects RX6 yX6_counted yX6_counted ∈ gtb := gm 46 (by decide +kernel) (by decide +kernel)
theorem cw_X6_keeps : Cond.code yX6_keeps cX6_keeps 2 none ∈ gtb := gm 809 (by decide +kernel) (by decide +kernel)
theorem ins_X6_keeps : Cond.instanceMethod yX6_keeps ∈ gtb := gm 808 (by decide +kernel) (by decide +kernel)
theorem sel_X6_keeps : Cond.selects RX6 yX6_keeps yX6_keeps ∈ gtb := gm 30 (by decide +kernel) (by decide +kernel)
theorem cw_X6_done : Cond.code yX6_done cX6_done 4 (some .int) ∈ gtb := gm 801 (by decide +kernel) (by decide +kernel)
theorem ins_X6_done : Cond.instanceMethod yX6_done ∈ gtb := gm 800 (by decide +kernel) (by decide +kernel)
theorem sel_X6_done : Cond.selects RX6 yX6_done yX6_done ∈ gtb := gm 28 (by decide +kernel) (by decide +kernel)
theorem cw_X6_notes : Cond.code yX6_notes cX6_notes 2 none ∈ gtb := gm 787 (by decide +kernel) (by decide +kernel)
theorem ins_X6_notes : Cond.instanceMethod yX6_notes ∈ gtb := gm 786 (by decide +kernel) (by decide +kernel)
theorem sel_X6_notes : Cond.selects RX6 yX6_notes yX6_notes ∈ gtb := gm 26 (by decide +kernel) (by decide +kernel)
theorem cw_X6_place : Cond.code yX6_place cX6_place 4 (some .int) ∈ gtb := gm 821 (by decide +kernel) (by decide +kernel)
theorem ins_X6_place : Cond.instanceMethod yX6_place ∈ gtb := gm 820 (by decide +kernel) (by decide +kernel)
theorem sel_X6_place : Cond.selects RX6 yX6_place yX6_place ∈ gtb := gm 32 (by decide +kernel) (by decide +kernel)
theorem cw_X6_isDancer : Cond.code yX6_isDancer cX6_isDancer 2 (some .boolean) ∈ gtb := gm 909 (by decide +kernel) (by decide +kernel)
theorem ins_X6_isDancer : Cond.instanceMethod yX6_isDancer ∈ gtb := gm 908 (by decide +kernel) (by decide +kernel)
theorem sel_X6_isDancer : Cond.selects RX6 yX6_isDancer yX6_isDancer ∈ gtb := gm 43 (by decide +kernel) (by decide +kernel)
theorem cw_X6_isCall : Cond.code yX6_isCall cX6_isCall 2 (some .boolean) ∈ gtb := gm 829 (by decide +kernel) (by decide +kernel)
theorem ins_X6_isCall : Cond.instanceMethod yX6_isCall ∈ gtb := gm 828 (by decide +kernel) (by decide +kernel)
theorem sel_X6_isCall : Cond.selects RX6 yX6_isCall yX6_isCall ∈ gtb := gm 33 (by decide +kernel) (by decide +kernel)
theorem cw_X6_isSpot : Cond.code yX6_isSpot cX6_isSpot 1 (some .boolean) ∈ gtb := gm 794 (by decide +kernel) (by decide +kernel)
theorem sta_X6_isSpot : Cond.static yX6_isSpot ∈ gtb := gm 793 (by decide +kernel) (by decide +kernel)
theorem cw_X6_who : Cond.code yX6_who cX6_who 3 (some .int) ∈ gtb := gm 865 (by decide +kernel) (by decide +kernel)
theorem ins_X6_who : Cond.instanceMethod yX6_who ∈ gtb := gm 864 (by decide +kernel) (by decide +kernel)
theorem sel_X6_who : Cond.selects RX6 yX6_who yX6_who ∈ gtb := gm 37 (by decide +kernel) (by decide +kernel)
theorem cw_X6_comes : Cond.code yX6_comes cX6_comes 5 (some .int) ∈ gtb := gm 791 (by decide +kernel) (by decide +kernel)
theorem ins_X6_comes : Cond.instanceMethod yX6_comes ∈ gtb := gm 790 (by decide +kernel) (by decide +kernel)
theorem sel_X6_comes : Cond.selects RX6 yX6_comes yX6_comes ∈ gtb := gm 27 (by decide +kernel) (by decide +kernel)
theorem cw_X6_adds : Cond.code yX6_adds cX6_adds 2 (some .int) ∈ gtb := gm 817 (by decide +kernel) (by decide +kernel)
theorem ins_X6_adds : Cond.instanceMethod yX6_adds ∈ gtb := gm 816 (by decide +kernel) (by decide +kernel)
theorem sel_X6_adds : Cond.selects RX6 yX6_adds yX6_adds ∈ gtb := gm 31 (by decide +kernel) (by decide +kernel)
theorem cw_X6_setsAt : Cond.code yX6_setsAt cX6_setsAt 6 (some .int) ∈ gtb := gm 837 (by decide +kernel) (by decide +kernel)
theorem ins_X6_setsAt : Cond.instanceMethod yX6_setsAt ∈ gtb := gm 836 (by decide +kernel) (by decide +kernel)
theorem sel_X6_setsAt : Cond.selects RX6 yX6_setsAt yX6_setsAt ∈ gtb := gm 34 (by decide +kernel) (by decide +kernel)
theorem cw_X6_fits : Cond.code yX6_fits cX6_fits 5 (some .boolean) ∈ gtb := gm 861 (by decide +kernel) (by decide +kernel)
theorem ins_X6_fits : Cond.instanceMethod yX6_fits ∈ gtb := gm 860 (by decide +kernel) (by decide +kernel)
theorem sel_X6_fits : Cond.selects RX6 yX6_fits yX6_fits ∈ gtb := gm 36 (by decide +kernel) (by decide +kernel)
theorem cw_X6_moves : Cond.code yX6_moves cX6_moves 6 (some .int) ∈ gtb := gm 869 (by decide +kernel) (by decide +kernel)
theorem ins_X6_moves : Cond.instanceMethod yX6_moves ∈ gtb := gm 868 (by decide +kernel) (by decide +kernel)
theorem sel_X6_moves : Cond.selects RX6 yX6_moves yX6_moves ∈ gtb := gm 38 (by decide +kernel) (by decide +kernel)
theorem cw_X6_given : Cond.code yX6_given cX6_given 2 (some .int) ∈ gtb := gm 857 (by decide +kernel) (by decide +kernel)
theorem ins_X6_given : Cond.instanceMethod yX6_given ∈ gtb := gm 856 (by decide +kernel) (by decide +kernel)
theorem sel_X6_given : Cond.selects RX6 yX6_given yX6_given ∈ gtb := gm 35 (by decide +kernel) (by decide +kernel)
theorem cw_X6_plansOn : Cond.code yX6_plansOn cX6_plansOn 2 (some .int) ∈ gtb := gm 889 (by decide +kernel) (by decide +kernel)
theorem ins_X6_plansOn : Cond.instanceMethod yX6_plansOn ∈ gtb := gm 888 (by decide +kernel) (by decide +kernel)
theorem sel_X6_plansOn : Cond.selects RX6 yX6_plansOn yX6_plansOn ∈ gtb := gm 41 (by decide +kernel) (by decide +kernel)
theorem cw_X6_dancer : Cond.code yX6_dancer cX6_dancer 3 (some .int) ∈ gtb := gm 783 (by decide +kernel) (by decide +kernel)
theorem ins_X6_dancer : Cond.instanceMethod yX6_dancer ∈ gtb := gm 781 (by decide +kernel) (by decide +kernel)
theorem sel_X6_dancer : Cond.selects RX6 yX6_dancer yX6_dancer ∈ gtb := gm 782 (by decide +kernel) (by decide +kernel)
theorem cw_X6_call : Cond.code yX6_call cX6_call 1 (some .int) ∈ gtb := gm 813 (by decide +kernel) (by decide +kernel)
theorem ins_X6_call : Cond.instanceMethod yX6_call ∈ gtb := gm 811 (by decide +kernel) (by decide +kernel)
theorem sel_X6_call : Cond.selects RX6 yX6_call yX6_call ∈ gtb := gm 812 (by decide +kernel) (by decide +kernel)
theorem cw_X6_exchanges : Cond.code yX6_exchanges cX6_exchanges 5 (some .int) ∈ gtb := gm 825 (by decide +kernel) (by decide +kernel)
theorem ins_X6_exchanges : Cond.instanceMethod yX6_exchanges ∈ gtb := gm 823 (by decide +kernel) (by decide +kernel)
theorem sel_X6_exchanges : Cond.selects RX6 yX6_exchanges yX6_exchanges ∈ gtb := gm 824 (by decide +kernel) (by decide +kernel)
theorem cw_X6_turns : Cond.code yX6_turns cX6_turns 4 (some .int) ∈ gtb := gm 833 (by decide +kernel) (by decide +kernel)
theorem ins_X6_turns : Cond.instanceMethod yX6_turns ∈ gtb := gm 831 (by decide +kernel) (by decide +kernel)
theorem sel_X6_turns : Cond.selects RX6 yX6_turns yX6_turns ∈ gtb := gm 832 (by decide +kernel) (by decide +kernel)
theorem cw_X6_wants : Cond.code yX6_wants cX6_wants 4 (some .int) ∈ gtb := gm 841 (by decide +kernel) (by decide +kernel)
theorem ins_X6_wants : Cond.instanceMethod yX6_wants ∈ gtb := gm 839 (by decide +kernel) (by decide +kernel)
theorem sel_X6_wants : Cond.selects RX6 yX6_wants yX6_wants ∈ gtb := gm 840 (by decide +kernel) (by decide +kernel)
theorem cw_X6_joins : Cond.code yX6_joins cX6_joins 7 (some .int) ∈ gtb := gm 845 (by decide +kernel) (by decide +kernel)
theorem ins_X6_joins : Cond.instanceMethod yX6_joins ∈ gtb := gm 843 (by decide +kernel) (by decide +kernel)
theorem sel_X6_joins : Cond.selects RX6 yX6_joins yX6_joins ∈ gtb := gm 844 (by decide +kernel) (by decide +kernel)
theorem cw_X6_backwards : Cond.code yX6_backwards cX6_backwards 5 (some .int) ∈ gtb := gm 849 (by decide +kernel) (by decide +kernel)
theorem ins_X6_backwards : Cond.instanceMethod yX6_backwards ∈ gtb := gm 847 (by decide +kernel) (by decide +kernel)
theorem sel_X6_backwards : Cond.selects RX6 yX6_backwards yX6_backwards ∈ gtb := gm 848 (by decide +kernel) (by decide +kernel)
theorem cw_X6_gives : Cond.code yX6_gives cX6_gives 2 (some .int) ∈ gtb := gm 853 (by decide +kernel) (by decide +kernel)
theorem ins_X6_gives : Cond.instanceMethod yX6_gives ∈ gtb := gm 851 (by decide +kernel) (by decide +kernel)
theorem sel_X6_gives : Cond.selects RX6 yX6_gives yX6_gives ∈ gtb := gm 852 (by decide +kernel) (by decide +kernel)
theorem cw_X6_home : Cond.code yX6_home cX6_home 3 (some .int) ∈ gtb := gm 873 (by decide +kernel) (by decide +kernel)
theorem ins_X6_home : Cond.instanceMethod yX6_home ∈ gtb := gm 871 (by decide +kernel) (by decide +kernel)
theorem sel_X6_home : Cond.selects RX6 yX6_home yX6_home ∈ gtb := gm 872 (by decide +kernel) (by decide +kernel)
theorem cw_X6_plans : Cond.code yX6_plans cX6_plans 2 (some .int) ∈ gtb := gm 885 (by decide +kernel) (by decide +kernel)
theorem ins_X6_plans : Cond.instanceMethod yX6_plans ∈ gtb := gm 883 (by decide +kernel) (by decide +kernel)
theorem sel_X6_plans : Cond.selects RX6 yX6_plans yX6_plans ∈ gtb := gm 884 (by decide +kernel) (by decide +kernel)
theorem cw_X6_scraps : Cond.code yX6_scraps cX6_scraps 2 (some .int) ∈ gtb := gm 893 (by decide +kernel) (by decide +kernel)
theorem ins_X6_scraps : Cond.instanceMethod yX6_scraps ∈ gtb := gm 891 (by decide +kernel) (by decide +kernel)
theorem sel_X6_scraps : Cond.selects RX6 yX6_scraps yX6_scraps ∈ gtb := gm 892 (by decide +kernel) (by decide +kernel)
theorem cw_X6_back : Cond.code yX6_back cX6_back 2 (some .int) ∈ gtb := gm 897 (by decide +kernel) (by decide +kernel)
theorem ins_X6_back : Cond.instanceMethod yX6_back ∈ gtb := gm 895 (by decide +kernel) (by decide +kernel)
theorem sel_X6_back : Cond.selects RX6 yX6_back yX6_back ∈ gtb := gm 896 (by decide +kernel) (by decide +kernel)
theorem cw_X6_isHome : Cond.code yX6_isHome cX6_isHome 2 (some .boolean) ∈ gtb := gm 881 (by decide +kernel) (by decide +kernel)
theorem ins_X6_isHome : Cond.instanceMethod yX6_isHome ∈ gtb := gm 880 (by decide +kernel) (by decide +kernel)
theorem sel_X6_isHome : Cond.selects RX6 yX6_isHome yX6_isHome ∈ gtb := gm 40 (by decide +kernel) (by decide +kernel)
theorem cw_X6_atHome : Cond.code yX6_atHome cX6_atHome 3 (some .int) ∈ gtb := gm 877 (by decide +kernel) (by decide +kernel)
theorem ins_X6_atHome : Cond.instanceMethod yX6_atHome ∈ gtb := gm 876 (by decide +kernel) (by decide +kernel)
theorem sel_X6_atHome : Cond.selects RX6 yX6_atHome yX6_atHome ∈ gtb := gm 39 (by decide +kernel) (by decide +kernel)
theorem cw_X6_partner : Cond.code yX6_partner cX6_partner 3 (some .int) ∈ gtb := gm 913 (by decide +kernel) (by decide +kernel)
theorem ins_X6_partner : Cond.instanceMethod yX6_partner ∈ gtb := gm 912 (by decide +kernel) (by decide +kernel)
theorem sel_X6_partner : Cond.selects RX6 yX6_partner yX6_partner ∈ gtb := gm 44 (by decide +kernel) (by decide +kernel)
theorem cw_X6_arePaired : Cond.code yX6_arePaired cX6_arePaired 5 (some .boolean) ∈ gtb := gm 917 (by decide +kernel) (by decide +kernel)
theorem ins_X6_arePaired : Cond.instanceMethod yX6_arePaired ∈ gtb := gm 916 (by decide +kernel) (by decide +kernel)
theorem sel_X6_arePaired : Cond.selects RX6 yX6_arePaired yX6_arePaired ∈ gtb := gm 45 (by decide +kernel) (by decide +kernel)
theorem cw_X6_pairs : Cond.code yX6_pairs cX6_pairs 3 (some .int) ∈ gtb := gm 972 (by decide +kernel) (by decide +kernel)
theorem ins_X6_pairs : Cond.instanceMethod yX6_pairs ∈ gtb := gm 971 (by decide +kernel) (by decide +kernel)
theorem sel_X6_pairs : Cond.selects RX6 yX6_pairs yX6_pairs ∈ gtb := gm 54 (by decide +kernel) (by decide +kernel)
theorem cw_X6_ofDancer : Cond.code yX6_ofDancer cX6_ofDancer 3 (some .int) ∈ gtb := gm 905 (by decide +kernel) (by decide +kernel)
theorem ins_X6_ofDancer : Cond.instanceMethod yX6_ofDancer ∈ gtb := gm 904 (by decide +kernel) (by decide +kernel)
theorem sel_X6_ofDancer : Cond.selects RX6 yX6_ofDancer yX6_ofDancer ∈ gtb := gm 42 (by decide +kernel) (by decide +kernel)
theorem cw_X6_of : Cond.code yX6_of cX6_of 3 (some .int) ∈ gtb := gm 901 (by decide +kernel) (by decide +kernel)
theorem ins_X6_of : Cond.instanceMethod yX6_of ∈ gtb := gm 899 (by decide +kernel) (by decide +kernel)
theorem sel_X6_of : Cond.selects RX6 yX6_of yX6_of ∈ gtb := gm 900 (by decide +kernel) (by decide +kernel)
theorem cw_X6_on : Cond.code yX6_on cX6_on 2 (some .int) ∈ gtb := gm 925 (by decide +kernel) (by decide +kernel)
theorem ins_X6_on : Cond.instanceMethod yX6_on ∈ gtb := gm 923 (by decide +kernel) (by decide +kernel)
theorem sel_X6_on : Cond.selects RX6 yX6_on yX6_on ∈ gtb := gm 924 (by decide +kernel) (by decide +kernel)
theorem cw_X6_atSpot : Cond.code yX6_atSpot cX6_atSpot 4 (some .int) ∈ gtb := gm 933 (by decide +kernel) (by decide +kernel)
theorem ins_X6_atSpot : Cond.instanceMethod yX6_atSpot ∈ gtb := gm 932 (by decide +kernel) (by decide +kernel)
theorem sel_X6_atSpot : Cond.selects RX6 yX6_atSpot yX6_atSpot ∈ gtb := gm 47 (by decide +kernel) (by decide +kernel)
theorem cw_X6_at : Cond.code yX6_at cX6_at 4 (some .int) ∈ gtb := gm 929 (by decide +kernel) (by decide +kernel)
theorem ins_X6_at : Cond.instanceMethod yX6_at ∈ gtb := gm 927 (by decide +kernel) (by decide +kernel)
theorem sel_X6_at : Cond.selects RX6 yX6_at yX6_at ∈ gtb := gm 928 (by decide +kernel) (by decide +kernel)
theorem cw_X6_common : Cond.code yX6_common cX6_common 5 (some .int) ∈ gtb := gm 952 (by decide +kernel) (by decide +kernel)
theorem sta_X6_common : Cond.static yX6_common ∈ gtb := gm 951 (by decide +kernel) (by decide +kernel)
theorem cw_X6_cycle : Cond.code yX6_cycle cX6_cycle 6 (some .int) ∈ gtb := gm 949 (by decide +kernel) (by decide +kernel)
theorem ins_X6_cycle : Cond.instanceMethod yX6_cycle ∈ gtb := gm 948 (by decide +kernel) (by decide +kernel)
theorem sel_X6_cycle : Cond.selects RX6 yX6_cycle yX6_cycle ∈ gtb := gm 50 (by decide +kernel) (by decide +kernel)
theorem cw_X6_round : Cond.code yX6_round cX6_round 5 (some .int) ∈ gtb := gm 945 (by decide +kernel) (by decide +kernel)
theorem ins_X6_round : Cond.instanceMethod yX6_round ∈ gtb := gm 944 (by decide +kernel) (by decide +kernel)
theorem sel_X6_round : Cond.selects RX6 yX6_round yX6_round ∈ gtb := gm 49 (by decide +kernel) (by decide +kernel)
theorem cw_X6_ofCall : Cond.code yX6_ofCall cX6_ofCall 5 (some .int) ∈ gtb := gm 941 (by decide +kernel) (by decide +kernel)
theorem ins_X6_ofCall : Cond.instanceMethod yX6_ofCall ∈ gtb := gm 940 (by decide +kernel) (by decide +kernel)
theorem sel_X6_ofCall : Cond.selects RX6 yX6_ofCall yX6_ofCall ∈ gtb := gm 48 (by decide +kernel) (by decide +kernel)
theorem cw_X6_tells : Cond.code yX6_tells cX6_tells 3 (some .int) ∈ gtb := gm 937 (by decide +kernel) (by decide +kernel)
theorem ins_X6_tells : Cond.instanceMethod yX6_tells ∈ gtb := gm 935 (by decide +kernel) (by decide +kernel)
theorem sel_X6_tells : Cond.selects RX6 yX6_tells yX6_tells ∈ gtb := gm 936 (by decide +kernel) (by decide +kernel)
theorem cw_X6_isGoal : Cond.code yX6_isGoal cX6_isGoal 2 (some .boolean) ∈ gtb := gm 968 (by decide +kernel) (by decide +kernel)
theorem ins_X6_isGoal : Cond.instanceMethod yX6_isGoal ∈ gtb := gm 967 (by decide +kernel) (by decide +kernel)
theorem sel_X6_isGoal : Cond.selects RX6 yX6_isGoal yX6_isGoal ∈ gtb := gm 53 (by decide +kernel) (by decide +kernel)
theorem cw_X6_holds : Cond.code yX6_holds cX6_holds 3 none ∈ gtb := gm 976 (by decide +kernel) (by decide +kernel)
theorem ins_X6_holds : Cond.instanceMethod yX6_holds ∈ gtb := gm 975 (by decide +kernel) (by decide +kernel)
theorem sel_X6_holds : Cond.selects RX6 yX6_holds yX6_holds ∈ gtb := gm 55 (by decide +kernel) (by decide +kernel)
theorem cw_X6_returns : Cond.code yX6_returns cX6_returns 3 none ∈ gtb := gm 980 (by decide +kernel) (by decide +kernel)
theorem ins_X6_returns : Cond.instanceMethod yX6_returns ∈ gtb := gm 979 (by decide +kernel) (by decide +kernel)
theorem sel_X6_returns : Cond.selects RX6 yX6_returns yX6_returns ∈ gtb := gm 56 (by decide +kernel) (by decide +kernel)
theorem cw_X6_isVaried : Cond.code yX6_isVaried cX6_isVaried 6 (some .boolean) ∈ gtb := gm 984 (by decide +kernel) (by decide +kernel)
theorem ins_X6_isVaried : Cond.instanceMethod yX6_isVaried ∈ gtb := gm 983 (by decide +kernel) (by decide +kernel)
theorem sel_X6_isVaried : Cond.selects RX6 yX6_isVaried yX6_isVaried ∈ gtb := gm 57 (by decide +kernel) (by decide +kernel)
theorem cw_X6_search : Cond.code yX6_search cX6_search 7 (some .int) ∈ gtb := gm 964 (by decide +kernel) (by decide +kernel)
theorem ins_X6_search : Cond.instanceMethod yX6_search ∈ gtb := gm 963 (by decide +kernel) (by decide +kernel)
theorem sel_X6_search : Cond.selects RX6 yX6_search yX6_search ∈ gtb := gm 52 (by decide +kernel) (by decide +kernel)
theorem cw_X6_fewest : Cond.code yX6_fewest cX6_fewest 5 (some .int) ∈ gtb := gm 960 (by decide +kernel) (by decide +kernel)
theorem ins_X6_fewest : Cond.instanceMethod yX6_fewest ∈ gtb := gm 959 (by decide +kernel) (by decide +kernel)
theorem sel_X6_fewest : Cond.selects RX6 yX6_fewest yX6_fewest ∈ gtb := gm 51 (by decide +kernel) (by decide +kernel)
theorem cw_X6_finds : Cond.code yX6_finds cX6_finds 4 (some .int) ∈ gtb := gm 956 (by decide +kernel) (by decide +kernel)
theorem ins_X6_finds : Cond.instanceMethod yX6_finds ∈ gtb := gm 954 (by decide +kernel) (by decide +kernel)
theorem sel_X6_finds : Cond.selects RX6 yX6_finds yX6_finds ∈ gtb := gm 955 (by decide +kernel) (by decide +kernel)
theorem cw_X6_found : Cond.code yX6_found cX6_found 6 (some .int) ∈ gtb := gm 988 (by decide +kernel) (by decide +kernel)
theorem ins_X6_found : Cond.instanceMethod yX6_found ∈ gtb := gm 986 (by decide +kernel) (by decide +kernel)
theorem sel_X6_found : Cond.selects RX6 yX6_found yX6_found ∈ gtb := gm 987 (by decide +kernel) (by decide +kernel)
theorem cw_X6_rows : Cond.code yX6_rows cX6_rows 3 (some .int) ∈ gtb := gm 992 (by decide +kernel) (by decide +kernel)
theorem ins_X6_rows : Cond.instanceMethod yX6_rows ∈ gtb := gm 990 (by decide +kernel) (by decide +kernel)
theorem sel_X6_rows : Cond.selects RX6 yX6_rows yX6_rows ∈ gtb := gm 991 (by decide +kernel) (by decide +kernel)
theorem cw_X6_walks : Cond.code yX6_walks cX6_walks 3 (some .int) ∈ gtb := gm 1000 (by decide +kernel) (by decide +kernel)
theorem ins_X6_walks : Cond.instanceMethod yX6_walks ∈ gtb := gm 999 (by decide +kernel) (by decide +kernel)
theorem sel_X6_walks : Cond.selects RX6 yX6_walks yX6_walks ∈ gtb := gm 58 (by decide +kernel) (by decide +kernel)
theorem cw_X6_judges : Cond.code yX6_judges cX6_judges 2 (some .int) ∈ gtb := gm 996 (by decide +kernel) (by decide +kernel)
theorem ins_X6_judges : Cond.instanceMethod yX6_judges ∈ gtb := gm 994 (by decide +kernel) (by decide +kernel)
theorem sel_X6_judges : Cond.selects RX6 yX6_judges yX6_judges ∈ gtb := gm 995 (by decide +kernel) (by decide +kernel)
theorem cw_X6_planned : Cond.code yX6_planned cX6_planned 4 (some .int) ∈ gtb := gm 1004 (by decide +kernel) (by decide +kernel)
theorem ins_X6_planned : Cond.instanceMethod yX6_planned ∈ gtb := gm 1002 (by decide +kernel) (by decide +kernel)
theorem sel_X6_planned : Cond.selects RX6 yX6_planned yX6_planned ∈ gtb := gm 1003 (by decide +kernel) (by decide +kernel)
theorem cw_X6_number : Cond.code yX6_number cX6_number 4 (some .int) ∈ gtb := gm 1012 (by decide +kernel) (by decide +kernel)
theorem ins_X6_number : Cond.instanceMethod yX6_number ∈ gtb := gm 1011 (by decide +kernel) (by decide +kernel)
theorem sel_X6_number : Cond.selects RX6 yX6_number yX6_number ∈ gtb := gm 59 (by decide +kernel) (by decide +kernel)
theorem cw_X6_count : Cond.code yX6_count cX6_count 2 (some .int) ∈ gtb := gm 1008 (by decide +kernel) (by decide +kernel)
theorem ins_X6_count : Cond.instanceMethod yX6_count ∈ gtb := gm 1006 (by decide +kernel) (by decide +kernel)
theorem sel_X6_count : Cond.selects RX6 yX6_count yX6_count ∈ gtb := gm 1007 (by decide +kernel) (by decide +kernel)
theorem cw_X6_type : Cond.code yX6_type cX6_type 2 (some .int) ∈ gtb := gm 1016 (by decide +kernel) (by decide +kernel)
theorem ins_X6_type : Cond.instanceMethod yX6_type ∈ gtb := gm 1014 (by decide +kernel) (by decide +kernel)
theorem sel_X6_type : Cond.selects RX6 yX6_type yX6_type ∈ gtb := gm 1015 (by decide +kernel) (by decide +kernel)
theorem cw_X6_clear : Cond.code yX6_clear cX6_clear 2 (some .int) ∈ gtb := gm 1020 (by decide +kernel) (by decide +kernel)
theorem ins_X6_clear : Cond.instanceMethod yX6_clear ∈ gtb := gm 1018 (by decide +kernel) (by decide +kernel)
theorem sel_X6_clear : Cond.selects RX6 yX6_clear yX6_clear ∈ gtb := gm 1019 (by decide +kernel) (by decide +kernel)
theorem cw_X6_byteAt : Cond.code yX6_byteAt cX6_byteAt 2 (some .int) ∈ gtb := gm 1036 (by decide +kernel) (by decide +kernel)
theorem ins_X6_byteAt : Cond.instanceMethod yX6_byteAt ∈ gtb := gm 1035 (by decide +kernel) (by decide +kernel)
theorem sel_X6_byteAt : Cond.selects RX6 yX6_byteAt yX6_byteAt ∈ gtb := gm 62 (by decide +kernel) (by decide +kernel)
theorem cw_X6_isFigure : Cond.code yX6_isFigure cX6_isFigure 1 (some .boolean) ∈ gtb := gm 1062 (by decide +kernel) (by decide +kernel)
theorem sta_X6_isFigure : Cond.static yX6_isFigure ∈ gtb := gm 1061 (by decide +kernel) (by decide +kernel)
theorem cw_X6_blanks : Cond.code yX6_blanks cX6_blanks 1 none ∈ gtb := gm 1032 (by decide +kernel) (by decide +kernel)
theorem ins_X6_blanks : Cond.instanceMethod yX6_blanks ∈ gtb := gm 1031 (by decide +kernel) (by decide +kernel)
theorem sel_X6_blanks : Cond.selects RX6 yX6_blanks yX6_blanks ∈ gtb := gm 61 (by decide +kernel) (by decide +kernel)
theorem cw_X6_fails : Cond.code yX6_fails cX6_fails 2 (some .boolean) ∈ gtb := gm 1047 (by decide +kernel) (by decide +kernel)
theorem ins_X6_fails : Cond.instanceMethod yX6_fails ∈ gtb := gm 1046 (by decide +kernel) (by decide +kernel)
theorem sel_X6_fails : Cond.selects RX6 yX6_fails yX6_fails ∈ gtb := gm 64 (by decide +kernel) (by decide +kernel)
theorem cw_X6_readsNumber : Cond.code yX6_readsNumber cX6_readsNumber 3 (some .boolean) ∈ gtb := gm 1059 (by decide +kernel) (by decide +kernel)
theorem ins_X6_readsNumber : Cond.instanceMethod yX6_readsNumber ∈ gtb := gm 1058 (by decide +kernel) (by decide +kernel)
theorem sel_X6_readsNumber : Cond.selects RX6 yX6_readsNumber yX6_readsNumber ∈ gtb := gm 67 (by decide +kernel) (by decide +kernel)
theorem cw_X6_readsCycle : Cond.code yX6_readsCycle cX6_readsCycle 6 (some .boolean) ∈ gtb := gm 1055 (by decide +kernel) (by decide +kernel)
theorem ins_X6_readsCycle : Cond.instanceMethod yX6_readsCycle ∈ gtb := gm 1054 (by decide +kernel) (by decide +kernel)
theorem sel_X6_readsCycle : Cond.selects RX6 yX6_readsCycle yX6_readsCycle ∈ gtb := gm 66 (by decide +kernel) (by decide +kernel)
theorem cw_X6_readsCycles : Cond.code yX6_readsCycles cX6_readsCycles 3 (some .boolean) ∈ gtb := gm 1051 (by decide +kernel) (by decide +kernel)
theorem ins_X6_readsCycles : Cond.instanceMethod yX6_readsCycles ∈ gtb := gm 1050 (by decide +kernel) (by decide +kernel)
theorem sel_X6_readsCycles : Cond.selects RX6 yX6_readsCycles yX6_readsCycles ∈ gtb := gm 65 (by decide +kernel) (by decide +kernel)
theorem cw_X6_numbersOf : Cond.code yX6_numbersOf cX6_numbersOf 1 (some .int) ∈ gtb := gm 1043 (by decide +kernel) (by decide +kernel)
theorem sta_X6_numbersOf : Cond.static yX6_numbersOf ∈ gtb := gm 1042 (by decide +kernel) (by decide +kernel)
theorem cw_X6_readsOrder : Cond.code yX6_readsOrder cX6_readsOrder 4 (some .boolean) ∈ gtb := gm 1040 (by decide +kernel) (by decide +kernel)
theorem ins_X6_readsOrder : Cond.instanceMethod yX6_readsOrder ∈ gtb := gm 1039 (by decide +kernel) (by decide +kernel)
theorem sel_X6_readsOrder : Cond.selects RX6 yX6_readsOrder yX6_readsOrder ∈ gtb := gm 63 (by decide +kernel) (by decide +kernel)
theorem cw_X6_reads : Cond.code yX6_reads cX6_reads 1 (some .boolean) ∈ gtb := gm 1028 (by decide +kernel) (by decide +kernel)
theorem ins_X6_reads : Cond.instanceMethod yX6_reads ∈ gtb := gm 1027 (by decide +kernel) (by decide +kernel)
theorem sel_X6_reads : Cond.selects RX6 yX6_reads yX6_reads ∈ gtb := gm 60 (by decide +kernel) (by decide +kernel)
theorem cw_X6_doesOne : Cond.code yX6_doesOne cX6_doesOne 6 (some .int) ∈ gtb := gm 1066 (by decide +kernel) (by decide +kernel)
theorem ins_X6_doesOne : Cond.instanceMethod yX6_doesOne ∈ gtb := gm 1065 (by decide +kernel) (by decide +kernel)
theorem sel_X6_doesOne : Cond.selects RX6 yX6_doesOne yX6_doesOne ∈ gtb := gm 68 (by decide +kernel) (by decide +kernel)
theorem cw_X6_does : Cond.code yX6_does cX6_does 3 (some .int) ∈ gtb := gm 1024 (by decide +kernel) (by decide +kernel)
theorem ins_X6_does : Cond.instanceMethod yX6_does ∈ gtb := gm 1022 (by decide +kernel) (by decide +kernel)
theorem sel_X6_does : Cond.selects RX6 yX6_does yX6_does ∈ gtb := gm 1023 (by decide +kernel) (by decide +kernel)
theorem cw_X6_toldOf : Cond.code yX6_toldOf cX6_toldOf 2 (some .int) ∈ gtb := gm 1074 (by decide +kernel) (by decide +kernel)
theorem ins_X6_toldOf : Cond.instanceMethod yX6_toldOf ∈ gtb := gm 1073 (by decide +kernel) (by decide +kernel)
theorem sel_X6_toldOf : Cond.selects RX6 yX6_toldOf yX6_toldOf ∈ gtb := gm 69 (by decide +kernel) (by decide +kernel)
theorem cw_X6_told : Cond.code yX6_told cX6_told 2 (some .int) ∈ gtb := gm 1070 (by decide +kernel) (by decide +kernel)
theorem ins_X6_told : Cond.instanceMethod yX6_told ∈ gtb := gm 1068 (by decide +kernel) (by decide +kernel)
theorem sel_X6_told : Cond.selects RX6 yX6_told yX6_told ∈ gtb := gm 1069 (by decide +kernel) (by decide +kernel)
theorem cw_X6_digest : Cond.code yX6_digest cX6_digest 5 (some .long) ∈ gtb := gm 1078 (by decide +kernel) (by decide +kernel)
theorem ins_X6_digest : Cond.instanceMethod yX6_digest ∈ gtb := gm 1076 (by decide +kernel) (by decide +kernel)
theorem sel_X6_digest : Cond.selects RX6 yX6_digest yX6_digest ∈ gtb := gm 1077 (by decide +kernel) (by decide +kernel)
theorem cw_J6_bitCount_0f7a4 : Cond.code yJ6_bitCount_0f7a4 cJ6_bitCount_0f7a4 1 (some .int) ∈ gtb := gm 501 (by decide +kernel) (by decide +kernel)
theorem sta_J6_bitCount_0f7a4 : Cond.static yJ6_bitCount_0f7a4 ∈ gtb := gm 500 (by decide +kernel) (by decide +kernel)
theorem cw_J9_abs_0f7a4 : Cond.code Lib.Math.abs.name Lib.Math.abs.code 1 (some .int) ∈ gtb := gm 458 (by decide +kernel) (by decide +kernel)
theorem sta_J9_abs_0f7a4 : Cond.static Lib.Math.abs.name ∈ gtb := gm 457 (by decide +kernel) (by decide +kernel)
theorem cw_J9_min_7cf53 : Cond.code Lib.Math.min.name Lib.Math.min.code 2 (some .int) ∈ gtb := gm 324 (by decide +kernel) (by decide +kernel)
theorem sta_J9_min_7cf53 : Cond.static Lib.Math.min.name ∈ gtb := gm 323 (by decide +kernel) (by decide +kernel)
theorem cw_J7_fill_53178 : Cond.code yJ7_fill_53178 cJ7_fill_53178 4 none ∈ gtb := gm 524 (by decide +kernel) (by decide +kernel)
theorem sta_J7_fill_53178 : Cond.static yJ7_fill_53178 ∈ gtb := gm 523 (by decide +kernel) (by decide +kernel)
theorem ac_nat : Cond.native arraycopyName ∈ gtb := gm 293 (by decide +kernel) (by decide +kernel)
theorem ac_sta : Cond.static arraycopyName ∈ gtb := gm 292 (by decide +kernel) (by decide +kernel)
theorem ml_L_9 : Cond.methodLink RL 9 yX5_init ∈ gtb := gm 84 (by decide +kernel) (by decide +kernel)
theorem ml_X5_3 : Cond.methodLink RX5 3 objectInit ∈ gtb := gm 87 (by decide +kernel) (by decide +kernel)
theorem ml_X5_11 : Cond.methodLink RX5 11 yX3_init ∈ gtb := gm 92 (by decide +kernel) (by decide +kernel)
theorem ml_X3_3 : Cond.methodLink RX3 3 objectInit ∈ gtb := gm 95 (by decide +kernel) (by decide +kernel)
theorem ml_X0_3 : Cond.methodLink RX0 3 objectInit ∈ gtb := gm 102 (by decide +kernel) (by decide +kernel)
theorem ml_X5_18 : Cond.methodLink RX5 18 yX1_init ∈ gtb := gm 156 (by decide +kernel) (by decide +kernel)
theorem ml_X1_3 : Cond.methodLink RX1 3 objectInit ∈ gtb := gm 159 (by decide +kernel) (by decide +kernel)
theorem ml_X1_17 : Cond.methodLink RX1 17 yX3_init ∈ gtb := gm 162 (by decide +kernel) (by decide +kernel)
theorem ml_X4_3 : Cond.methodLink RX4 3 objectInit ∈ gtb := gm 179 (by decide +kernel) (by decide +kernel)
theorem ml_X5_32 : Cond.methodLink RX5 32 yX2_init ∈ gtb := gm 211 (by decide +kernel) (by decide +kernel)
theorem ml_X2_3 : Cond.methodLink RX2 3 objectInit ∈ gtb := gm 214 (by decide +kernel) (by decide +kernel)
theorem ml_L_13 : Cond.methodLink RL 13 yX5_dancer ∈ gtb := gm 279 (by decide +kernel) (by decide +kernel)
theorem ml_X5_41 : Cond.methodLink RX5 41 yX1_prepare ∈ gtb := gm 283 (by decide +kernel) (by decide +kernel)
theorem ml_X1_22 : Cond.methodLink RX1 22 yX3_copyFrom ∈ gtb := gm 287 (by decide +kernel) (by decide +kernel)
theorem ml_X3_35 : Cond.methodLink RX3 35 arraycopyName ∈ gtb := gm 291 (by decide +kernel) (by decide +kernel)
theorem ml_X3_44 : Cond.methodLink RX3 44 yX0_copyFrom ∈ gtb := gm 294 (by decide +kernel) (by decide +kernel)
theorem ml_X0_21 : Cond.methodLink RX0 21 arraycopyName ∈ gtb := gm 298 (by decide +kernel) (by decide +kernel)
theorem ml_X5_45 : Cond.methodLink RX5 45 yX3_addDancer ∈ gtb := gm 299 (by decide +kernel) (by decide +kernel)
theorem ml_X3_58 : Cond.methodLink RX3 58 yX3_whoIsOn ∈ gtb := gm 306 (by decide +kernel) (by decide +kernel)
theorem ml_X3_62 : Cond.methodLink RX3 62 yX3_isHome ∈ gtb := gm 310 (by decide +kernel) (by decide +kernel)
theorem ml_X5_49 : Cond.methodLink RX5 49 yX5_settled ∈ gtb := gm 314 (by decide +kernel) (by decide +kernel)
theorem ml_X5_153 : Cond.methodLink RX5 153 yX1_confirm ∈ gtb := gm 318 (by decide +kernel) (by decide +kernel)
theorem ml_X1_29 : Cond.methodLink RX1 29 Lib.Math.min.name ∈ gtb := gm 322 (by decide +kernel) (by decide +kernel)
theorem ml_X5_82 : Cond.methodLink RX5 82 yX5_noted ∈ gtb := gm 325 (by decide +kernel) (by decide +kernel)
theorem ml_L_18 : Cond.methodLink RL 18 yX5_call ∈ gtb := gm 329 (by decide +kernel) (by decide +kernel)
theorem ml_X5_53 : Cond.methodLink RX5 53 yX3_addCall ∈ gtb := gm 333 (by decide +kernel) (by decide +kernel)
theorem ml_X3_66 : Cond.methodLink RX3 66 yX0_reset ∈ gtb := gm 337 (by decide +kernel) (by decide +kernel)
theorem ml_L_23 : Cond.methodLink RL 23 yX5_exchanges ∈ gtb := gm 341 (by decide +kernel) (by decide +kernel)
theorem ml_X5_57 : Cond.methodLink RX5 57 yX3_exchangeGoals ∈ gtb := gm 345 (by decide +kernel) (by decide +kernel)
theorem ml_X3_76 : Cond.methodLink RX3 76 yX3_isSpotOfCall ∈ gtb := gm 349 (by decide +kernel) (by decide +kernel)
theorem ml_L_28 : Cond.methodLink RL 28 yX5_turns ∈ gtb := gm 353 (by decide +kernel) (by decide +kernel)
theorem ml_X5_61 : Cond.methodLink RX5 61 yX3_setTurn ∈ gtb := gm 357 (by decide +kernel) (by decide +kernel)
theorem ml_L_32 : Cond.methodLink RL 32 yX5_wants ∈ gtb := gm 361 (by decide +kernel) (by decide +kernel)
theorem ml_X5_64 : Cond.methodLink RX5 64 yX3_setWant ∈ gtb := gm 365 (by decide +kernel) (by decide +kernel)
theorem ml_L_36 : Cond.methodLink RL 36 yX5_joins ∈ gtb := gm 369 (by decide +kernel) (by decide +kernel)
theorem ml_X5_67 : Cond.methodLink RX5 67 yX3_addJoined ∈ gtb := gm 373 (by decide +kernel) (by decide +kernel)
theorem ml_X3_85 : Cond.methodLink RX3 85 yX0_canBeJoinedWith ∈ gtb := gm 377 (by decide +kernel) (by decide +kernel)
theorem ml_X3_69 : Cond.methodLink RX3 69 yX3_addCall ∈ gtb := gm 381 (by decide +kernel) (by decide +kernel)
theorem ml_X3_89 : Cond.methodLink RX3 89 yX0_becomeJoined ∈ gtb := gm 382 (by decide +kernel) (by decide +kernel)
theorem ml_L_40 : Cond.methodLink RL 40 yX5_backwards ∈ gtb := gm 386 (by decide +kernel) (by decide +kernel)
theorem ml_X5_70 : Cond.methodLink RX5 70 yX3_addTurnedBack ∈ gtb := gm 390 (by decide +kernel) (by decide +kernel)
theorem ml_X3_93 : Cond.methodLink RX3 93 yX0_becomeTurnedBack ∈ gtb := gm 394 (by decide +kernel) (by decide +kernel)
theorem ml_L_45 : Cond.methodLink RL 45 yX5_gives ∈ gtb := gm 398 (by decide +kernel) (by decide +kernel)
theorem ml_X5_73 : Cond.methodLink RX5 73 yX3_give ∈ gtb := gm 402 (by decide +kernel) (by decide +kernel)
theorem ml_X3_100 : Cond.methodLink RX3 100 yX0_fitsOn ∈ gtb := gm 409 (by decide +kernel) (by decide +kernel)
theorem ml_X0_27 : Cond.methodLink RX0 27 yX0_spotsThatWant ∈ gtb := gm 413 (by decide +kernel) (by decide +kernel)
theorem ml_X3_103 : Cond.methodLink RX3 103 yX3_move ∈ gtb := gm 417 (by decide +kernel) (by decide +kernel)
theorem ml_X3_134 : Cond.methodLink RX3 134 yX0_placeBehind ∈ gtb := gm 421 (by decide +kernel) (by decide +kernel)
theorem ml_L_49 : Cond.methodLink RL 49 yX5_home ∈ gtb := gm 425 (by decide +kernel) (by decide +kernel)
theorem ml_X5_76 : Cond.methodLink RX5 76 yX3_sendHome ∈ gtb := gm 429 (by decide +kernel) (by decide +kernel)
theorem ml_X3_107 : Cond.methodLink RX3 107 yX3_howManyAreHome ∈ gtb := gm 433 (by decide +kernel) (by decide +kernel)
theorem ml_L_53 : Cond.methodLink RL 53 yX5_of ∈ gtb := gm 437 (by decide +kernel) (by decide +kernel)
theorem ml_X5_79 : Cond.methodLink RX5 79 yX3_askDancer ∈ gtb := gm 441 (by decide +kernel) (by decide +kernel)
theorem ml_X3_113 : Cond.methodLink RX3 113 yX3_partnerOf ∈ gtb := gm 445 (by decide +kernel) (by decide +kernel)
theorem ml_X3_116 : Cond.methodLink RX3 116 yX3_isPaired ∈ gtb := gm 449 (by decide +kernel) (by decide +kernel)
theorem ml_X5_206 : Cond.methodLink RX5 206 Lib.Math.abs.name ∈ gtb := gm 456 (by decide +kernel) (by decide +kernel)
theorem ml_L_57 : Cond.methodLink RL 57 yX5_on ∈ gtb := gm 459 (by decide +kernel) (by decide +kernel)
theorem ml_X5_85 : Cond.methodLink RX5 85 yX5_isBelow ∈ gtb := gm 463 (by decide +kernel) (by decide +kernel)
theorem ml_X5_89 : Cond.methodLink RX5 89 yX3_whoIsOn ∈ gtb := gm 464 (by decide +kernel) (by decide +kernel)
theorem ml_L_61 : Cond.methodLink RL 61 yX5_at ∈ gtb := gm 465 (by decide +kernel) (by decide +kernel)
theorem ml_X5_92 : Cond.methodLink RX5 92 yX3_askSpotOfCall ∈ gtb := gm 469 (by decide +kernel) (by decide +kernel)
theorem ml_L_65 : Cond.methodLink RL 65 yX5_tells ∈ gtb := gm 473 (by decide +kernel) (by decide +kernel)
theorem ml_X5_95 : Cond.methodLink RX5 95 yX3_askCall ∈ gtb := gm 477 (by decide +kernel) (by decide +kernel)
theorem ml_X3_119 : Cond.methodLink RX3 119 yX0_spotsThatMove ∈ gtb := gm 481 (by decide +kernel) (by decide +kernel)
theorem ml_X3_122 : Cond.methodLink RX3 122 yX0_round ∈ gtb := gm 485 (by decide +kernel) (by decide +kernel)
theorem ml_X0_36 : Cond.methodLink RX0 36 yX0_timesToFaceAhead ∈ gtb := gm 489 (by decide +kernel) (by decide +kernel)
theorem ml_X0_39 : Cond.methodLink RX0 39 yX0_leastCommonMultiple ∈ gtb := gm 492 (by decide +kernel) (by decide +kernel)
theorem ml_X3_125 : Cond.methodLink RX3 125 yX0_spotsWithWant ∈ gtb := gm 495 (by decide +kernel) (by decide +kernel)
theorem ml_X0_31 : Cond.methodLink RX0 31 yJ6_bitCount_0f7a4 ∈ gtb := gm 499 (by decide +kernel) (by decide +kernel)
theorem ml_L_69 : Cond.methodLink RL 69 yX5_finds ∈ gtb := gm 505 (by decide +kernel) (by decide +kernel)
theorem ml_X5_98 : Cond.methodLink RX5 98 yX5_isSearch ∈ gtb := gm 509 (by decide +kernel) (by decide +kernel)
theorem ml_X5_102 : Cond.methodLink RX5 102 yX2_shortest ∈ gtb := gm 512 (by decide +kernel) (by decide +kernel)
theorem ml_X2_38 : Cond.methodLink RX2 38 yX2_start ∈ gtb := gm 516 (by decide +kernel) (by decide +kernel)
theorem ml_X2_76 : Cond.methodLink RX2 76 arraycopyName ∈ gtb := gm 520 (by decide +kernel) (by decide +kernel)
theorem ml_X2_89 : Cond.methodLink RX2 89 yJ7_fill_53178 ∈ gtb := gm 522 (by decide +kernel) (by decide +kernel)
theorem ml_X2_99 : Cond.methodLink RX2 99 yX0_spotsThatWant ∈ gtb := gm 525 (by decide +kernel) (by decide +kernel)
theorem ml_X2_104 : Cond.methodLink RX2 104 yX0_placeBehind ∈ gtb := gm 526 (by decide +kernel) (by decide +kernel)
theorem ml_X2_53 : Cond.methodLink RX2 53 yX2_rowsOfLength ∈ gtb := gm 527 (by decide +kernel) (by decide +kernel)
theorem ml_X2_110 : Cond.methodLink RX2 110 yX2_isGoalBehind ∈ gtb := gm 531 (by decide +kernel) (by decide +kernel)
theorem ml_X2_113 : Cond.methodLink RX2 113 yX2_walk ∈ gtb := gm 536 (by decide +kernel) (by decide +kernel)
theorem ml_X2_117 : Cond.methodLink RX2 117 yX2_mayCome ∈ gtb := gm 539 (by decide +kernel) (by decide +kernel)
theorem ml_X2_120 : Cond.methodLink RX2 120 yX2_step ∈ gtb := gm 543 (by decide +kernel) (by decide +kernel)
theorem ml_L_73 : Cond.methodLink RL 73 yX5_found ∈ gtb := gm 547 (by decide +kernel) (by decide +kernel)
theorem ml_X5_106 : Cond.methodLink RX5 106 yX2_callOfRow ∈ gtb := gm 551 (by decide +kernel) (by decide +kernel)
theorem ml_L_78 : Cond.methodLink RL 78 yX5_rows ∈ gtb := gm 556 (by decide +kernel) (by decide +kernel)
theorem ml_X5_109 : Cond.methodLink RX5 109 yX2_howMany ∈ gtb := gm 560 (by decide +kernel) (by decide +kernel)
theorem ml_L_82 : Cond.methodLink RL 82 yX5_plans ∈ gtb := gm 565 (by decide +kernel) (by decide +kernel)
theorem ml_X5_113 : Cond.methodLink RX5 113 yX3_addToPlan ∈ gtb := gm 569 (by decide +kernel) (by decide +kernel)
theorem ml_L_86 : Cond.methodLink RL 86 yX5_scraps ∈ gtb := gm 573 (by decide +kernel) (by decide +kernel)
theorem ml_X5_116 : Cond.methodLink RX5 116 yX3_emptyPlan ∈ gtb := gm 577 (by decide +kernel) (by decide +kernel)
theorem ml_L_90 : Cond.methodLink RL 90 yX5_judges ∈ gtb := gm 581 (by decide +kernel) (by decide +kernel)
theorem ml_X5_119 : Cond.methodLink RX5 119 yX3_followPlan ∈ gtb := gm 585 (by decide +kernel) (by decide +kernel)
theorem ml_L_94 : Cond.methodLink RL 94 yX5_planned ∈ gtb := gm 589 (by decide +kernel) (by decide +kernel)
theorem ml_X5_122 : Cond.methodLink RX5 122 yX3_askPlanned ∈ gtb := gm 593 (by decide +kernel) (by decide +kernel)
theorem ml_X3_110 : Cond.methodLink RX3 110 yX3_followPlan ∈ gtb := gm 597 (by decide +kernel) (by decide +kernel)
theorem ml_L_98 : Cond.methodLink RL 98 yX5_count ∈ gtb := gm 598 (by decide +kernel) (by decide +kernel)
theorem ml_X5_125 : Cond.methodLink RX5 125 yX3_askCount ∈ gtb := gm 602 (by decide +kernel) (by decide +kernel)
theorem ml_X3_128 : Cond.methodLink RX3 128 yX3_howManyPartnersArePaired ∈ gtb := gm 606 (by decide +kernel) (by decide +kernel)
theorem ml_X3_131 : Cond.methodLink RX3 131 yX3_callsThatFit ∈ gtb := gm 610 (by decide +kernel) (by decide +kernel)
theorem ml_L_102 : Cond.methodLink RL 102 yX5_type ∈ gtb := gm 614 (by decide +kernel) (by decide +kernel)
theorem ml_X5_128 : Cond.methodLink RX5 128 yX4_append ∈ gtb := gm 618 (by decide +kernel) (by decide +kernel)
theorem ml_L_106 : Cond.methodLink RL 106 yX5_clear ∈ gtb := gm 623 (by decide +kernel) (by decide +kernel)
theorem ml_X5_131 : Cond.methodLink RX5 131 yX4_empty ∈ gtb := gm 627 (by decide +kernel) (by decide +kernel)
theorem ml_L_110 : Cond.methodLink RL 110 yX5_does ∈ gtb := gm 631 (by decide +kernel) (by decide +kernel)
theorem ml_X5_134 : Cond.methodLink RX5 134 yX4_firstFault ∈ gtb := gm 635 (by decide +kernel) (by decide +kernel)
theorem ml_X4_39 : Cond.methodLink RX4 39 yX4_restart ∈ gtb := gm 639 (by decide +kernel) (by decide +kernel)
theorem ml_X4_42 : Cond.methodLink RX4 42 yX4_readOrder ∈ gtb := gm 643 (by decide +kernel) (by decide +kernel)
theorem ml_X4_35 : Cond.methodLink RX4 35 yX4_nextSign ∈ gtb := gm 647 (by decide +kernel) (by decide +kernel)
theorem ml_X4_78 : Cond.methodLink RX4 78 yX4_skipBlanks ∈ gtb := gm 651 (by decide +kernel) (by decide +kernel)
theorem ml_X4_52 : Cond.methodLink RX4 52 yX4_numbersBehind ∈ gtb := gm 655 (by decide +kernel) (by decide +kernel)
theorem ml_X4_56 : Cond.methodLink RX4 56 yX4_fails ∈ gtb := gm 658 (by decide +kernel) (by decide +kernel)
theorem ml_X4_60 : Cond.methodLink RX4 60 yX4_readCycles ∈ gtb := gm 662 (by decide +kernel) (by decide +kernel)
theorem ml_X4_72 : Cond.methodLink RX4 72 yX4_readCycle ∈ gtb := gm 666 (by decide +kernel) (by decide +kernel)
theorem ml_X4_66 : Cond.methodLink RX4 66 yX4_readNumber ∈ gtb := gm 670 (by decide +kernel) (by decide +kernel)
theorem ml_X4_81 : Cond.methodLink RX4 81 yX4_isFigure ∈ gtb := gm 674 (by decide +kernel) (by decide +kernel)
theorem ml_X4_75 : Cond.methodLink RX4 75 yX4_takesSpot ∈ gtb := gm 678 (by decide +kernel) (by decide +kernel)
theorem ml_X4_63 : Cond.methodLink RX4 63 yX4_readNumbers ∈ gtb := gm 682 (by decide +kernel) (by decide +kernel)
theorem ml_X4_46 : Cond.methodLink RX4 46 yX4_hasMore ∈ gtb := gm 686 (by decide +kernel) (by decide +kernel)
theorem ml_X5_137 : Cond.methodLink RX5 137 yX4_restart ∈ gtb := gm 690 (by decide +kernel) (by decide +kernel)
theorem ml_X5_140 : Cond.methodLink RX5 140 yX4_hasMore ∈ gtb := gm 691 (by decide +kernel) (by decide +kernel)
theorem ml_X5_144 : Cond.methodLink RX5 144 yX4_readOrder ∈ gtb := gm 692 (by decide +kernel) (by decide +kernel)
theorem ml_X5_147 : Cond.methodLink RX5 147 yX5_doOrder ∈ gtb := gm 693 (by decide +kernel) (by decide +kernel)
theorem ml_X5_202 : Cond.methodLink RX5 202 yX3_addCallThatGoes ∈ gtb := gm 697 (by decide +kernel) (by decide +kernel)
theorem ml_X5_150 : Cond.methodLink RX5 150 yX1_undo ∈ gtb := gm 701 (by decide +kernel) (by decide +kernel)
theorem ml_L_114 : Cond.methodLink RL 114 yX5_back ∈ gtb := gm 705 (by decide +kernel) (by decide +kernel)
theorem ml_X5_156 : Cond.methodLink RX5 156 yX1_takeBack ∈ gtb := gm 709 (by decide +kernel) (by decide +kernel)
theorem ml_L_118 : Cond.methodLink RL 118 yX5_told ∈ gtb := gm 713 (by decide +kernel) (by decide +kernel)
theorem ml_L_122 : Cond.methodLink RL 122 yX5_digest ∈ gtb := gm 717 (by decide +kernel) (by decide +kernel)
theorem ml_X5_169 : Cond.methodLink RX5 169 yX5_told ∈ gtb := gm 722 (by decide +kernel) (by decide +kernel)
theorem ml_X5_172 : Cond.methodLink RX5 172 yX5_mixed ∈ gtb := gm 723 (by decide +kernel) (by decide +kernel)
theorem ml_X5_182 : Cond.methodLink RX5 182 yX5_mixedWithCall ∈ gtb := gm 727 (by decide +kernel) (by decide +kernel)
theorem ml_L_12 : Cond.methodLink RL 12 yX6_init ∈ gtb := gm 733 (by decide +kernel) (by decide +kernel)
theorem ml_X6_1 : Cond.methodLink RX6 1 objectInit ∈ gtb := gm 736 (by decide +kernel) (by decide +kernel)
theorem ml_L_17 : Cond.methodLink RL 17 yX6_dancer ∈ gtb := gm 780 (by decide +kernel) (by decide +kernel)
theorem ml_X6_72 : Cond.methodLink RX6 72 yX6_notes ∈ gtb := gm 784 (by decide +kernel) (by decide +kernel)
theorem ml_X6_75 : Cond.methodLink RX6 75 yX6_comes ∈ gtb := gm 788 (by decide +kernel) (by decide +kernel)
theorem ml_X6_52 : Cond.methodLink RX6 52 yX6_isSpot ∈ gtb := gm 792 (by decide +kernel) (by decide +kernel)
theorem ml_X6_48 : Cond.methodLink RX6 48 yX6_isIn ∈ gtb := gm 795 (by decide +kernel) (by decide +kernel)
theorem ml_X6_79 : Cond.methodLink RX6 79 yX6_done ∈ gtb := gm 798 (by decide +kernel) (by decide +kernel)
theorem ml_X6_38 : Cond.methodLink RX6 38 yX6_refused ∈ gtb := gm 802 (by decide +kernel) (by decide +kernel)
theorem ml_X6_45 : Cond.methodLink RX6 45 yX6_keeps ∈ gtb := gm 806 (by decide +kernel) (by decide +kernel)
theorem ml_L_22 : Cond.methodLink RL 22 yX6_call ∈ gtb := gm 810 (by decide +kernel) (by decide +kernel)
theorem ml_X6_82 : Cond.methodLink RX6 82 yX6_adds ∈ gtb := gm 814 (by decide +kernel) (by decide +kernel)
theorem ml_X6_56 : Cond.methodLink RX6 56 yX6_place ∈ gtb := gm 818 (by decide +kernel) (by decide +kernel)
theorem ml_L_27 : Cond.methodLink RL 27 yX6_exchanges ∈ gtb := gm 822 (by decide +kernel) (by decide +kernel)
theorem ml_X6_60 : Cond.methodLink RX6 60 yX6_isCall ∈ gtb := gm 826 (by decide +kernel) (by decide +kernel)
theorem ml_L_31 : Cond.methodLink RL 31 yX6_turns ∈ gtb := gm 830 (by decide +kernel) (by decide +kernel)
theorem ml_X6_86 : Cond.methodLink RX6 86 yX6_setsAt ∈ gtb := gm 834 (by decide +kernel) (by decide +kernel)
theorem ml_L_35 : Cond.methodLink RL 35 yX6_wants ∈ gtb := gm 838 (by decide +kernel) (by decide +kernel)
theorem ml_L_39 : Cond.methodLink RL 39 yX6_joins ∈ gtb := gm 842 (by decide +kernel) (by decide +kernel)
theorem ml_L_44 : Cond.methodLink RL 44 yX6_backwards ∈ gtb := gm 846 (by decide +kernel) (by decide +kernel)
theorem ml_L_48 : Cond.methodLink RL 48 yX6_gives ∈ gtb := gm 850 (by decide +kernel) (by decide +kernel)
theorem ml_X6_90 : Cond.methodLink RX6 90 yX6_given ∈ gtb := gm 854 (by decide +kernel) (by decide +kernel)
theorem ml_X6_66 : Cond.methodLink RX6 66 yX6_fits ∈ gtb := gm 858 (by decide +kernel) (by decide +kernel)
theorem ml_X6_63 : Cond.methodLink RX6 63 yX6_who ∈ gtb := gm 862 (by decide +kernel) (by decide +kernel)
theorem ml_X6_69 : Cond.methodLink RX6 69 yX6_moves ∈ gtb := gm 866 (by decide +kernel) (by decide +kernel)
theorem ml_L_52 : Cond.methodLink RL 52 yX6_home ∈ gtb := gm 870 (by decide +kernel) (by decide +kernel)
theorem ml_X6_93 : Cond.methodLink RX6 93 yX6_atHome ∈ gtb := gm 874 (by decide +kernel) (by decide +kernel)
theorem ml_X6_99 : Cond.methodLink RX6 99 yX6_isHome ∈ gtb := gm 878 (by decide +kernel) (by decide +kernel)
theorem ml_L_85 : Cond.methodLink RL 85 yX6_plans ∈ gtb := gm 882 (by decide +kernel) (by decide +kernel)
theorem ml_X6_96 : Cond.methodLink RX6 96 yX6_plansOn ∈ gtb := gm 886 (by decide +kernel) (by decide +kernel)
theorem ml_L_89 : Cond.methodLink RL 89 yX6_scraps ∈ gtb := gm 890 (by decide +kernel) (by decide +kernel)
theorem ml_L_117 : Cond.methodLink RL 117 yX6_back ∈ gtb := gm 894 (by decide +kernel) (by decide +kernel)
theorem ml_L_56 : Cond.methodLink RL 56 yX6_of ∈ gtb := gm 898 (by decide +kernel) (by decide +kernel)
theorem ml_X6_111 : Cond.methodLink RX6 111 yX6_ofDancer ∈ gtb := gm 902 (by decide +kernel) (by decide +kernel)
theorem ml_X6_108 : Cond.methodLink RX6 108 yX6_isDancer ∈ gtb := gm 906 (by decide +kernel) (by decide +kernel)
theorem ml_X6_102 : Cond.methodLink RX6 102 yX6_partner ∈ gtb := gm 910 (by decide +kernel) (by decide +kernel)
theorem ml_X6_105 : Cond.methodLink RX6 105 yX6_arePaired ∈ gtb := gm 914 (by decide +kernel) (by decide +kernel)
theorem ml_X6_114 : Cond.methodLink RX6 114 yX6_counted ∈ gtb := gm 918 (by decide +kernel) (by decide +kernel)
theorem ml_L_60 : Cond.methodLink RL 60 yX6_on ∈ gtb := gm 922 (by decide +kernel) (by decide +kernel)
theorem ml_L_64 : Cond.methodLink RL 64 yX6_at ∈ gtb := gm 926 (by decide +kernel) (by decide +kernel)
theorem ml_X6_117 : Cond.methodLink RX6 117 yX6_atSpot ∈ gtb := gm 930 (by decide +kernel) (by decide +kernel)
theorem ml_L_68 : Cond.methodLink RL 68 yX6_tells ∈ gtb := gm 934 (by decide +kernel) (by decide +kernel)
theorem ml_X6_129 : Cond.methodLink RX6 129 yX6_ofCall ∈ gtb := gm 938 (by decide +kernel) (by decide +kernel)
theorem ml_X6_126 : Cond.methodLink RX6 126 yX6_round ∈ gtb := gm 942 (by decide +kernel) (by decide +kernel)
theorem ml_X6_120 : Cond.methodLink RX6 120 yX6_cycle ∈ gtb := gm 946 (by decide +kernel) (by decide +kernel)
theorem ml_X6_123 : Cond.methodLink RX6 123 yX6_common ∈ gtb := gm 950 (by decide +kernel) (by decide +kernel)
theorem ml_L_72 : Cond.methodLink RL 72 yX6_finds ∈ gtb := gm 953 (by decide +kernel) (by decide +kernel)
theorem ml_X6_151 : Cond.methodLink RX6 151 yX6_fewest ∈ gtb := gm 957 (by decide +kernel) (by decide +kernel)
theorem ml_X6_148 : Cond.methodLink RX6 148 yX6_search ∈ gtb := gm 961 (by decide +kernel) (by decide +kernel)
theorem ml_X6_135 : Cond.methodLink RX6 135 yX6_isGoal ∈ gtb := gm 965 (by decide +kernel) (by decide +kernel)
theorem ml_X6_132 : Cond.methodLink RX6 132 yX6_pairs ∈ gtb := gm 969 (by decide +kernel) (by decide +kernel)
theorem ml_X6_138 : Cond.methodLink RX6 138 yX6_holds ∈ gtb := gm 973 (by decide +kernel) (by decide +kernel)
theorem ml_X6_142 : Cond.methodLink RX6 142 yX6_returns ∈ gtb := gm 977 (by decide +kernel) (by decide +kernel)
theorem ml_X6_145 : Cond.methodLink RX6 145 yX6_isVaried ∈ gtb := gm 981 (by decide +kernel) (by decide +kernel)
theorem ml_L_77 : Cond.methodLink RL 77 yX6_found ∈ gtb := gm 985 (by decide +kernel) (by decide +kernel)
theorem ml_L_81 : Cond.methodLink RL 81 yX6_rows ∈ gtb := gm 989 (by decide +kernel) (by decide +kernel)
theorem ml_L_93 : Cond.methodLink RL 93 yX6_judges ∈ gtb := gm 993 (by decide +kernel) (by decide +kernel)
theorem ml_X6_154 : Cond.methodLink RX6 154 yX6_walks ∈ gtb := gm 997 (by decide +kernel) (by decide +kernel)
theorem ml_L_97 : Cond.methodLink RL 97 yX6_planned ∈ gtb := gm 1001 (by decide +kernel) (by decide +kernel)
theorem ml_L_101 : Cond.methodLink RL 101 yX6_count ∈ gtb := gm 1005 (by decide +kernel) (by decide +kernel)
theorem ml_X6_157 : Cond.methodLink RX6 157 yX6_number ∈ gtb := gm 1009 (by decide +kernel) (by decide +kernel)
theorem ml_L_105 : Cond.methodLink RL 105 yX6_type ∈ gtb := gm 1013 (by decide +kernel) (by decide +kernel)
theorem ml_L_109 : Cond.methodLink RL 109 yX6_clear ∈ gtb := gm 1017 (by decide +kernel) (by decide +kernel)
theorem ml_L_113 : Cond.methodLink RL 113 yX6_does ∈ gtb := gm 1021 (by decide +kernel) (by decide +kernel)
theorem ml_X6_200 : Cond.methodLink RX6 200 yX6_reads ∈ gtb := gm 1025 (by decide +kernel) (by decide +kernel)
theorem ml_X6_169 : Cond.methodLink RX6 169 yX6_blanks ∈ gtb := gm 1029 (by decide +kernel) (by decide +kernel)
theorem ml_X6_163 : Cond.methodLink RX6 163 yX6_byteAt ∈ gtb := gm 1033 (by decide +kernel) (by decide +kernel)
theorem ml_X6_197 : Cond.methodLink RX6 197 yX6_readsOrder ∈ gtb := gm 1037 (by decide +kernel) (by decide +kernel)
theorem ml_X6_191 : Cond.methodLink RX6 191 yX6_numbersOf ∈ gtb := gm 1041 (by decide +kernel) (by decide +kernel)
theorem ml_X6_178 : Cond.methodLink RX6 178 yX6_fails ∈ gtb := gm 1044 (by decide +kernel) (by decide +kernel)
theorem ml_X6_194 : Cond.methodLink RX6 194 yX6_readsCycles ∈ gtb := gm 1048 (by decide +kernel) (by decide +kernel)
theorem ml_X6_185 : Cond.methodLink RX6 185 yX6_readsCycle ∈ gtb := gm 1052 (by decide +kernel) (by decide +kernel)
theorem ml_X6_181 : Cond.methodLink RX6 181 yX6_readsNumber ∈ gtb := gm 1056 (by decide +kernel) (by decide +kernel)
theorem ml_X6_175 : Cond.methodLink RX6 175 yX6_isFigure ∈ gtb := gm 1060 (by decide +kernel) (by decide +kernel)
theorem ml_X6_203 : Cond.methodLink RX6 203 yX6_doesOne ∈ gtb := gm 1063 (by decide +kernel) (by decide +kernel)
theorem ml_L_121 : Cond.methodLink RL 121 yX6_told ∈ gtb := gm 1067 (by decide +kernel) (by decide +kernel)
theorem ml_X6_206 : Cond.methodLink RX6 206 yX6_toldOf ∈ gtb := gm 1071 (by decide +kernel) (by decide +kernel)
theorem ml_L_126 : Cond.methodLink RL 126 yX6_digest ∈ gtb := gm 1075 (by decide +kernel) (by decide +kernel)
theorem kc_J6_265 : Cond.constant RJ6 265 1431655765 ∈ gtb := gm 502 (by decide +kernel) (by decide +kernel)
theorem kc_J6_266 : Cond.constant RJ6 266 858993459 ∈ gtb := gm 503 (by decide +kernel) (by decide +kernel)
theorem kc_J6_267 : Cond.constant RJ6 267 252645135 ∈ gtb := gm 504 (by decide +kernel) (by decide +kernel)
theorem kc_X2_57 : Cond.constant RX2 57 1000000 ∈ gtb := gm 564 (by decide +kernel) (by decide +kernel)
theorem kl_X5_167 : Cond.constantLong RX5 167 2633 ∈ gtb := gm 721 (by decide +kernel) (by decide +kernel)
theorem kl_X5_191 : Cond.constantLong RX5 191 31 ∈ gtb := gm 726 (by decide +kernel) (by decide +kernel)
theorem kl_X6_209 : Cond.constantLong RX6 209 2633 ∈ gtb := gm 1079 (by decide +kernel) (by decide +kernel)
theorem kl_X6_211 : Cond.constantLong RX6 211 31 ∈ gtb := gm 1080 (by decide +kernel) (by decide +kernel)
end
section
abbrev rem (x y : Int32) : Int32 := x - x / y * y
/-- more rounds than any loop takes -/
def FU : Nat := 100000
theorem ib_m10 : (Int8.ofInt (-10)).toInt32 = (-10) := by decide
theorem ib_m5 : (Int8.ofInt (-5)).toInt32 = (-5) := by decide
theorem ib_m4 : (Int8.ofInt (-4)).toInt32 = (-4) := by decide
theorem ib_m3 : (Int8.ofInt (-3)).toInt32 = (-3) := by decide
theorem ib_m2 : (Int8.ofInt (-2)).toInt32 = (-2) := by decide
theorem ib_6 : (Int8.ofInt 6).toInt32 = 6 := by decide
theorem ib_7 : (Int8.ofInt 7).toInt32 = 7 := by decide
theorem ib_8 : (Int8.ofInt 8).toInt32 = 8 := by decide
theorem ib_10 : (Int8.ofInt 10).toInt32 = 10 := by decide
theorem ib_11 : (Int8.ofInt 11).toInt32 = 11 := by decide
theorem ib_12 : (Int8.ofInt 12).toInt32 = 12 := by decide
theorem ib_13 : (Int8.ofInt 13).toInt32 = 13 := by decide
theorem ib_16 : (Int8.ofInt 16).toInt32 = 16 := by decide
theorem ib_32 : (Int8.ofInt 32).toInt32 = 32 := by decide
theorem ib_36 : (Int8.ofInt 36).toInt32 = 36 := by decide
theorem ib_40 : (Int8.ofInt 40).toInt32 = 40 := by decide
theorem ib_41 : (Int8.ofInt 41).toInt32 = 41 := by decide
theorem ib_48 : (Int8.ofInt 48).toInt32 = 48 := by decide
theorem ib_57 : (Int8.ofInt 57).toInt32 = 57 := by decide
theorem ib_59 : (Int8.ofInt 59).toInt32 = 59 := by decide
theorem ib_63 : (Int8.ofInt 63).toInt32 = 63 := by decide
theorem ib_100 : (Int8.ofInt 100).toInt32 = 100 := by decide
theorem ib_103 : (Int8.ofInt 103).toInt32 = 103 := by decide
theorem ib_107 : (Int8.ofInt 107).toInt32 = 107 := by decide
theorem ib_112 : (Int8.ofInt 112).toInt32 = 112 := by decide
theorem ib_117 : (Int8.ofInt 117).toInt32 = 117 := by decide
theorem ib_119 : (Int8.ofInt 119).toInt32 = 119 := by decide
theorem ib_120 : (Int8.ofInt 120).toInt32 = 120 := by decide
theorem ib_127 : (Int8.ofInt 127).toInt32 = 127 := by decide
theorem cl_8 : (8 : Int32).toNatClampNeg = 8 := by decide
theorem cl_12 : (12 : Int32).toNatClampNeg = 12 := by decide
theorem ic_m1 : Int32.ofInt (-1) = (-1) := by decide
theorem ic_0 : Int32.ofInt 0 = 0 := by decide
theorem ic_1 : Int32.ofInt 1 = 1 := by decide
theorem ic_2 : Int32.ofInt 2 = 2 := by decide
theorem ic_3 : Int32.ofInt 3 = 3 := by decide
theorem ic_4 : Int32.ofInt 4 = 4 := by decide
theorem ic_5 : Int32.ofInt 5 = 5 := by decide
theorem ii_m1 (x : Int32) : x + Int32.ofInt (-1) = x + (-1) := rfl
theorem ii_1 (x : Int32) : x + Int32.ofInt 1 = x + 1 := rfl
theorem ii_2 (x : Int32) : x + Int32.ofInt 2 = x + 2 := rfl
theorem nz_2 : ¬ (2 : Int32) = 0 := by decide
theorem nz_3 : ¬ (3 : Int32) = 0 := by decide
theorem nz_4 : ¬ (4 : Int32) = 0 := by decide
theorem nz_6 : ¬ (6 : Int32) = 0 := by decide
theorem nz_16 : ¬ (16 : Int32) = 0 := by decide
theorem is_m1000 : (Int16.ofInt (-1000)).toInt32 = (-1000) := by decide
theorem is_128 : (Int16.ofInt 128).toInt32 = 128 := by decide
theorem is_324 : (Int16.ofInt 324).toInt32 = 324 := by decide
theorem is_336 : (Int16.ofInt 336).toInt32 = 336 := by decide
theorem is_1344 : (Int16.ofInt 1344).toInt32 = 1344 := by decide
theorem inb_ix {i : Int32} {n : Nat} (h : inb i n) : ix i < n := Nat.not_le.mp fun q => inb_in h (Or.inr q)
theorem ts_ne {x v : Int32} {k : Int} (hv : v.toInt = k) (h : ¬ x = v) : x.toInt ≠ k := fun e => h (Int32.toInt_inj.mp (e.trans hv.symm))
theorem ts_out {x : Int32} {lo hi : Int} (h : ∀ k : Int, lo ≤ k → k ≤ hi → x.toInt ≠ k) : x.toInt < lo ∨ hi < x.toInt := by
  rcases Int.lt_or_le x.toInt lo with q | q
  · exact Or.inl q
  rcases Int.lt_or_le hi x.toInt with r | r
  · exact Or.inr r
  · exact absurd rfl (h x.toInt q r)
theorem ft_0_0 {k : Nat} (h : kd k = 0) : kd (rf k 0) = 7 ∧ ln (rf k 0) = 12 := (by decide +kernel : ∀ k, k < 307 → kd k = 0 → kd (rf k 0) = 7 ∧ ln (rf k 0) = 12) k (kd_lt (by omega)) h
theorem ft_0_1 {k : Nat} (h : kd k = 0) : kd (rf k 1) = 7 ∧ ln (rf k 1) = 12 := (by decide +kernel : ∀ k, k < 307 → kd k = 0 → kd (rf k 1) = 7 ∧ ln (rf k 1) = 12) k (kd_lt (by omega)) h
theorem ft_0_2 {k : Nat} (h : kd k = 0) : kd (rf k 2) = 7 ∧ ln (rf k 2) = 12 := (by decide +kernel : ∀ k, k < 307 → kd k = 0 → kd (rf k 2) = 7 ∧ ln (rf k 2) = 12) k (kd_lt (by omega)) h
theorem ft_1_0 {k : Nat} (h : kd k = 1) : kd (rf k 0) = 9 ∧ ln (rf k 0) = 6 := (by decide +kernel : ∀ k, k < 307 → kd k = 1 → kd (rf k 0) = 9 ∧ ln (rf k 0) = 6) k (kd_lt (by omega)) h
theorem ft_2_0 {k : Nat} (h : kd k = 2) : kd (rf k 0) = 10 ∧ ln (rf k 0) = 9 := (by decide +kernel : ∀ k, k < 307 → kd k = 2 → kd (rf k 0) = 10 ∧ ln (rf k 0) = 9) k (kd_lt (by omega)) h
theorem ft_2_1 {k : Nat} (h : kd k = 2) : kd (rf k 1) = 7 ∧ ln (rf k 1) = 8 := (by decide +kernel : ∀ k, k < 307 → kd k = 2 → kd (rf k 1) = 7 ∧ ln (rf k 1) = 8) k (kd_lt (by omega)) h
theorem ft_2_2 {k : Nat} (h : kd k = 2) : kd (rf k 2) = 7 ∧ ln (rf k 2) = 8 := (by decide +kernel : ∀ k, k < 307 → kd k = 2 → kd (rf k 2) = 7 ∧ ln (rf k 2) = 8) k (kd_lt (by omega)) h
theorem ft_2_3 {k : Nat} (h : kd k = 2) : kd (rf k 3) = 10 ∧ ln (rf k 3) = 6 := (by decide +kernel : ∀ k, k < 307 → kd k = 2 → kd (rf k 3) = 10 ∧ ln (rf k 3) = 6) k (kd_lt (by omega)) h
theorem ft_2_4 {k : Nat} (h : kd k = 2) : kd (rf k 4) = 7 ∧ ln (rf k 4) = 6 := (by decide +kernel : ∀ k, k < 307 → kd k = 2 → kd (rf k 4) = 7 ∧ ln (rf k 4) = 6) k (kd_lt (by omega)) h
theorem ft_2_5 {k : Nat} (h : kd k = 2) : kd (rf k 5) = 7 ∧ ln (rf k 5) = 8 := (by decide +kernel : ∀ k, k < 307 → kd k = 2 → kd (rf k 5) = 7 ∧ ln (rf k 5) = 8) k (kd_lt (by omega)) h
theorem ft_2_6 {k : Nat} (h : kd k = 2) : kd (rf k 6) = 7 ∧ ln (rf k 6) = 5 := (by decide +kernel : ∀ k, k < 307 → kd k = 2 → kd (rf k 6) = 7 ∧ ln (rf k 6) = 5) k (kd_lt (by omega)) h
theorem ft_2_7 {k : Nat} (h : kd k = 2) : kd (rf k 7) = 7 ∧ ln (rf k 7) = 8 := (by decide +kernel : ∀ k, k < 307 → kd k = 2 → kd (rf k 7) = 7 ∧ ln (rf k 7) = 8) k (kd_lt (by omega)) h
theorem ft_3_1 {k : Nat} (h : kd k = 3) : kd (rf k 1) = 7 ∧ ln (rf k 1) = 8 := (by decide +kernel : ∀ k, k < 307 → kd k = 3 → kd (rf k 1) = 7 ∧ ln (rf k 1) = 8) k (kd_lt (by omega)) h
theorem ft_3_2 {k : Nat} (h : kd k = 3) : kd (rf k 2) = 7 ∧ ln (rf k 2) = 8 := (by decide +kernel : ∀ k, k < 307 → kd k = 3 → kd (rf k 2) = 7 ∧ ln (rf k 2) = 8) k (kd_lt (by omega)) h
theorem ft_3_4 {k : Nat} (h : kd k = 3) : kd (rf k 4) = 8 ∧ ln (rf k 4) = 8 := (by decide +kernel : ∀ k, k < 307 → kd k = 3 → kd (rf k 4) = 8 ∧ ln (rf k 4) = 8) k (kd_lt (by omega)) h
theorem ft_3_6 {k : Nat} (h : kd k = 3) : kd (rf k 6) = 7 ∧ ln (rf k 6) = 12 := (by decide +kernel : ∀ k, k < 307 → kd k = 3 → kd (rf k 6) = 7 ∧ ln (rf k 6) = 12) k (kd_lt (by omega)) h
theorem ft_3_7 {k : Nat} (h : kd k = 3) : kd (rf k 7) = 7 ∧ ln (rf k 7) = 8 := (by decide +kernel : ∀ k, k < 307 → kd k = 3 → kd (rf k 7) = 7 ∧ ln (rf k 7) = 8) k (kd_lt (by omega)) h
theorem ft_4_0 {k : Nat} (h : kd k = 4) : kd (rf k 0) = 7 ∧ ln (rf k 0) = 120 := (by decide +kernel : ∀ k, k < 307 → kd k = 4 → kd (rf k 0) = 7 ∧ ln (rf k 0) = 120) k (kd_lt (by omega)) h
theorem ft_4_5 {k : Nat} (h : kd k = 4) : kd (rf k 5) = 7 ∧ ln (rf k 5) = 3 := (by decide +kernel : ∀ k, k < 307 → kd k = 4 → kd (rf k 5) = 7 ∧ ln (rf k 5) = 3) k (kd_lt (by omega)) h
theorem ft_4_6 {k : Nat} (h : kd k = 4) : kd (rf k 6) = 7 ∧ ln (rf k 6) = 12 := (by decide +kernel : ∀ k, k < 307 → kd k = 4 → kd (rf k 6) = 7 ∧ ln (rf k 6) = 12) k (kd_lt (by omega)) h
theorem ft_5_0 {k : Nat} (h : kd k = 5) : kd (rf k 0) = 3 := (by decide +kernel : ∀ k, k < 307 → kd k = 5 → kd (rf k 0) = 3) k (kd_lt (by omega)) h
theorem ft_5_1 {k : Nat} (h : kd k = 5) : kd (rf k 1) = 1 := (by decide +kernel : ∀ k, k < 307 → kd k = 5 → kd (rf k 1) = 1) k (kd_lt (by omega)) h
theorem ft_5_2 {k : Nat} (h : kd k = 5) : kd (rf k 2) = 4 := (by decide +kernel : ∀ k, k < 307 → kd k = 5 → kd (rf k 2) = 4) k (kd_lt (by omega)) h
theorem ft_5_3 {k : Nat} (h : kd k = 5) : kd (rf k 3) = 2 := (by decide +kernel : ∀ k, k < 307 → kd k = 5 → kd (rf k 3) = 2) k (kd_lt (by omega)) h
theorem ft_5_4 {k : Nat} (h : kd k = 5) : kd (rf k 4) = 7 ∧ ln (rf k 4) = 3 := (by decide +kernel : ∀ k, k < 307 → kd k = 5 → kd (rf k 4) = 7 ∧ ln (rf k 4) = 3) k (kd_lt (by omega)) h
theorem ft_6_0 {k : Nat} (h : kd k = 6) : kd (rf k 0) = 7 ∧ ln (rf k 0) = 336 := (by decide +kernel : ∀ k, k < 307 → kd k = 6 → kd (rf k 0) = 7 ∧ ln (rf k 0) = 336) k (kd_lt (by omega)) h
theorem ft_6_1 {k : Nat} (h : kd k = 6) : kd (rf k 1) = 7 ∧ ln (rf k 1) = 1680 := (by decide +kernel : ∀ k, k < 307 → kd k = 6 → kd (rf k 1) = 7 ∧ ln (rf k 1) = 1680) k (kd_lt (by omega)) h
theorem ft_6_3 {k : Nat} (h : kd k = 6) : kd (rf k 3) = 7 ∧ ln (rf k 3) = 336 := (by decide +kernel : ∀ k, k < 307 → kd k = 6 → kd (rf k 3) = 7 ∧ ln (rf k 3) = 336) k (kd_lt (by omega)) h
theorem ft_6_4 {k : Nat} (h : kd k = 6) : kd (rf k 4) = 7 ∧ ln (rf k 4) = 3 := (by decide +kernel : ∀ k, k < 307 → kd k = 6 → kd (rf k 4) = 7 ∧ ln (rf k 4) = 3) k (kd_lt (by omega)) h
theorem ft_6_6 {k : Nat} (h : kd k = 6) : kd (rf k 6) = 7 ∧ ln (rf k 6) = 120 := (by decide +kernel : ∀ k, k < 307 → kd k = 6 → kd (rf k 6) = 7 ∧ ln (rf k 6) = 120) k (kd_lt (by omega)) h
theorem ft_6_7 {k : Nat} (h : kd k = 6) : kd (rf k 7) = 7 ∧ ln (rf k 7) = 96 := (by decide +kernel : ∀ k, k < 307 → kd k = 6 → kd (rf k 7) = 7 ∧ ln (rf k 7) = 96) k (kd_lt (by omega)) h
theorem ft_6_8 {k : Nat} (h : kd k = 6) : kd (rf k 8) = 7 ∧ ln (rf k 8) = 6 := (by decide +kernel : ∀ k, k < 307 → kd k = 6 → kd (rf k 8) = 7 ∧ ln (rf k 8) = 6) k (kd_lt (by omega)) h
theorem ft_6_9 {k : Nat} (h : kd k = 6) : kd (rf k 9) = 7 ∧ ln (rf k 9) = 1560 := (by decide +kernel : ∀ k, k < 307 → kd k = 6 → kd (rf k 9) = 7 ∧ ln (rf k 9) = 1560) k (kd_lt (by omega)) h
theorem el_3_4 {k i : Nat} (h : kd k = 3) (hi : i < 8) : kd (rf (rf k 4) i) = 0 := (by decide +kernel : ∀ k, k < 307 → kd k = 3 → ∀ i, i < 8 → kd (rf (rf k 4) i) = 0) k (kd_lt (by omega)) h i hi
theorem el_1_0 {k i : Nat} (h : kd k = 1) (hi : i < 6) : kd (rf (rf k 0) i) = 3 := (by decide +kernel : ∀ k, k < 307 → kd k = 1 → ∀ i, i < 6 → kd (rf (rf k 0) i) = 3) k (kd_lt (by omega)) h i hi
theorem el_2_0 {k i : Nat} (h : kd k = 2) (hi : i < 9) : kd (rf (rf k 0) i) = 7 ∧ ln (rf (rf k 0) i) = 48 := (by decide +kernel : ∀ k, k < 307 → kd k = 2 → ∀ i, i < 9 → kd (rf (rf k 0) i) = 7 ∧ ln (rf (rf k 0) i) = 48) k (kd_lt (by omega)) h i hi
theorem el_2_3 {k i : Nat} (h : kd k = 2) (hi : i < 6) : kd (rf (rf k 3) i) = 7 ∧ ln (rf (rf k 3) i) = 8 := (by decide +kernel : ∀ k, k < 307 → kd k = 2 → ∀ i, i < 6 → kd (rf (rf k 3) i) = 7 ∧ ln (rf (rf k 3) i) = 8) k (kd_lt (by omega)) h i hi
end
section
abbrev MX0_reset : Mt := (RX0, cX0_reset, 2, none, 1)
def f_X0_reset_2  : Nat → Nat → Int32 → Sg → Option (Unit × Sg)
  | 0, _, _, _ => none
  | n + 1, r0, x1, σ => if kd r0 = 0 then (if 12 ≤ x1 then (some ((), σ)) else (if inb x1 12 then (bn (up σ (rf r0 0) (ix x1) x1) (fun τ2 => if inb x1 12 then (bn (up τ2 (rf r0 1) (ix x1) 0) (fun τ4 => if inb x1 12 then (bn (up τ4 (rf r0 2) (ix x1) 0) (fun τ6 => f_X0_reset_2 n r0 (x1 + 1) τ6)) else none)) else none)) else none)) else none
def f_X0_reset (r0 : Nat) (σ : Sg) : Option (Unit × Sg) := if kd r0 = 0 then (f_X0_reset_2 FU r0 0 σ) else none
set_option maxRecDepth 100000 in
set_option maxHeartbeats 4000000 in
theorem aw_X0_reset_2 (l : Launch) (G : Gt) : ∀ (n : Nat) (r0 : Nat) (x1 : Int32) (σ : Sg), Aw l G MX0_reset rV 2 [(0, .ref (Gb G + r0)), (1, .int x1)] [] σ (f_X0_reset_2 n r0 x1 σ) := by
  intro n
  induction n with
  | zero => intro r0 x1 σ; exact Aw.no
  | succ n ih =>
    intro r0 x1 σ
    rw [f_X0_reset_2]
    refine Aw.gd (fun hr0 => ?_)
    refine Aw.iload_n 1 rfl rfl dX0_reset_2 ?_
    refine Aw.bipush (v := 12) ib_12 rfl dX0_reset_3 ?_
    refine Aw.icmp_ge (q := 8) (t := 35) rfl (by decide) dX0_reset_5 (fun hc => ?_) (fun hc => ?_)
    · exact Aw.vret rfl dX0_reset_35
    · refine Aw.aload_n 0 rfl rfl dX0_reset_8 ?_
      refine Aw.getR fl_X0_9 (Nat.le_of_ble_eq_true rfl) rfl hr0 rfl dX0_reset_9 ?_
      refine Aw.iload_n 1 rfl rfl dX0_reset_12 ?_
      refine Aw.iload_n 1 rfl rfl dX0_reset_13 ?_
      refine Aw.iast (n := 12) (ft_0_0 hr0).1 (ft_0_0 hr0).2 rfl dX0_reset_14 (fun hb1 => ?_)
      refine Aw.bs (fun τ2 => ?_)
      refine Aw.aload_n 0 rfl rfl dX0_reset_15 ?_
      refine Aw.getR fl_X0_15 (Nat.le_of_ble_eq_true rfl) rfl hr0 rfl dX0_reset_16 ?_
      refine Aw.iload_n 1 rfl rfl dX0_reset_19 ?_
      refine Aw.iconst (v := 0) ic_0 rfl dX0_reset_20 ?_
      refine Aw.iast (n := 12) (ft_0_1 hr0).1 (ft_0_1 hr0).2 rfl dX0_reset_21 (fun hb3 => ?_)
      refine Aw.bs (fun τ4 => ?_)
      refine Aw.aload_n 0 rfl rfl dX0_reset_22 ?_
      refine Aw.getR fl_X0_18 (Nat.le_of_ble_eq_true rfl) rfl hr0 rfl dX0_reset_23 ?_
      refine Aw.iload_n 1 rfl rfl dX0_reset_26 ?_
      refine Aw.iconst (v := 0) ic_0 rfl dX0_reset_27 ?_
      refine Aw.iast (n := 12) (ft_0_2 hr0).1 (ft_0_2 hr0).2 rfl dX0_reset_28 (fun hb5 => ?_)
      refine Aw.bs (fun τ6 => ?_)
      refine Aw.iinc (v := x1 + 1) (L' := [(1, .int (x1 + 1)), (0, .ref (Gb G + r0))]) 1 rfl (ii_1 _) (Nat.le_of_ble_eq_true rfl) rfl rfl dX0_reset_29 ?_
      refine Aw.goto (q := 2) (by decide) dX0_reset_32 ?_
      refine Aw.sub (L' := [(0, .ref (Gb G + r0)), (1, .int (x1 + 1))]) [1, 0] rfl ?_
      exact ih _ _ _
set_option maxRecDepth 100000 in
set_option maxHeartbeats 4000000 in
theorem ct_X0_reset (l : Launch) (G : Gt) (r0 : Nat) (σ : Sg) : Ct l G yX0_reset MX0_reset rV [.ref (Gb G + r0)] σ (f_X0_reset r0 σ) := by
  refine Ct.of (by decide +kernel) rfl (Nat.le_of_ble_eq_true rfl) ?_
  show Aw l G MX0_reset rV 0 [(0, .ref (Gb G + r0))] [] σ _
  unfold f_X0_reset
  refine Aw.gd (fun hr0 => ?_)
  refine Aw.iconst (v := 0) ic_0 rfl dX0_reset_0 ?_
  refine Aw.istore_n (L' := [(1, .int 0), (0, .ref (Gb G + r0))]) (Nat.le_of_ble_eq_true rfl) rfl rfl dX0_reset_1 ?_
  refine Aw.sub (L' := [(0, .ref (Gb G + r0)), (1, .int 0)]) [1, 0] rfl ?_
  exact aw_X0_reset_2 l G FU _ _ _
abbrev MX0_copyFrom : Mt := (RX0, cX0_copyFrom, 2, none, 1)
def f_X0_copyFrom (r0 : Nat) (r1 : Nat) (σ : Sg) : Option (Unit × Sg) := if kd r0 = 0 then (if kd r1 = 0 then (bn (cpy σ (rf r1 0) 0 (rf r0 0) 0 12) (fun τ1 => bn (cpy τ1 (rf r1 1) 0 (rf r0 1) 0 12) (fun τ2 => bn (cpy τ2 (rf r1 2) 0 (rf r0 2) 0 12) (fun τ3 => some ((), τ3))))) else none) else none
set_option maxRecDepth 100000 in
set_option maxHeartbeats 4000000 in
theorem ct_X0_copyFrom (l : Launch) (G : Gt) (r0 : Nat) (r1 : Nat) (σ : Sg) : Ct l G yX0_copyFrom MX0_copyFrom rV [.ref (Gb G + r0), .ref (Gb G + r1)] σ (f_X0_copyFrom r0 r1 σ) := by
  refine Ct.of (by decide +kernel) rfl (Nat.le_of_ble_eq_true rfl) ?_
  show Aw l G MX0_copyFrom rV 0 [(0, .ref (Gb G + r0)), (1, .ref (Gb G + r1))] [] σ _
  unfold f_X0_copyFrom
  refine Aw.gd (fun hr0 => ?_)
  refine Aw.gd (fun hr1 => ?_)
  refine Aw.aload_n 1 rfl rfl dX0_copyFrom_0 ?_
  refine Aw.getR fl_X0_9 (Nat.le_of_ble_eq_true rfl) rfl hr1 rfl dX0_copyFrom_1 ?_
  refine Aw.iconst (v := 0) ic_0 rfl dX0_copyFrom_4 ?_
  refine Aw.aload_n 0 rfl rfl dX0_copyFrom_5 ?_
  refine Aw.getR fl_X0_9 (Nat.le_of_ble_eq_true rfl) rfl hr0 rfl dX0_copyFrom_6 ?_
  refine Aw.iconst (v := 0) ic_0 rfl dX0_copyFrom_9 ?_
  refine Aw.bipush (v := 12) ib_12 rfl dX0_copyFrom_10 ?_
  refine Aw.acopy (n := 12) (n0 := 12) (n1 := 12) ml_X0_21 ac_nat ac_sta ini_J10 (ft_0_0 hr1).1 (ft_0_0 hr0).1 (ft_0_0 hr1).2 (ft_0_0 hr0).2 (by decide) (by decide) (by decide) (Nat.le_of_ble_eq_true rfl) (by decide) rfl dX0_copyFrom_12 ?_
  rw [cl_12]
  refine Aw.bs (fun τ1 => ?_)
  refine Aw.aload_n 1 rfl rfl dX0_copyFrom_15 ?_
  refine Aw.getR fl_X0_15 (Nat.le_of_ble_eq_true rfl) rfl hr1 rfl dX0_copyFrom_16 ?_
  refine Aw.iconst (v := 0) ic_0 rfl dX0_copyFrom_19 ?_
  refine Aw.aload_n 0 rfl rfl dX0_copyFrom_20 ?_
  refine Aw.getR fl_X0_15 (Nat.le_of_ble_eq_true rfl) rfl hr0 rfl dX0_copyFrom_21 ?_
  refine Aw.iconst (v := 0) ic_0 rfl dX0_copyFrom_24 ?_
  refine Aw.bipush (v := 12) ib_12 rfl dX0_copyFrom_25 ?_
  refine Aw.acopy (n := 12) (n0 := 12) (n1 := 12) ml_X0_21 ac_nat ac_sta ini_J10 (ft_0_1 hr1).1 (ft_0_1 hr0).1 (ft_0_1 hr1).2 (ft_0_1 hr0).2 (by decide) (by decide) (by decide) (Nat.le_of_ble_eq_true rfl) (by decide) rfl dX0_copyFrom_27 ?_
  rw [cl_12]
  refine Aw.bs (fun τ2 => ?_)
  refine Aw.aload_n 1 rfl rfl dX0_copyFrom_30 ?_
  refine Aw.getR fl_X0_18 (Nat.le_of_ble_eq_true rfl) rfl hr1 rfl dX0_copyFrom_31 ?_
  refine Aw.iconst (v := 0) ic_0 rfl dX0_copyFrom_34 ?_
  refine Aw.aload_n 0 rfl rfl dX0_copyFrom_35 ?_
  refine Aw.getR fl_X0_18 (Nat.le_of_ble_eq_true rfl) rfl hr0 rfl dX0_copyFrom_36 ?_
  refine Aw.iconst (v := 0) ic_0 rfl dX0_copyFrom_39 ?_
  refine Aw.bipush (v := 12) ib_12 rfl dX0_copyFrom_40 ?_
  refine Aw.acopy (n := 12) (n0 := 12) (n1 := 12) ml_X0_21 ac_nat ac_sta ini_J10 (ft_0_2 hr1).1 (ft_0_2 hr0).1 (ft_0_2 hr1).2 (ft_0_2 hr0).2 (by decide) (by decide) (by decide) (Nat.le_of_ble_eq_true rfl) (by decide) rfl dX0_copyFrom_42 ?_
  rw [cl_12]
  refine Aw.bs (fun τ3 => ?_)
  exact Aw.vret rfl dX0_copyFrom_45
abbrev MX0_canBeJoinedWith : Mt := (RX0, cX0_canBeJoinedWith, 4, (some .boolean), 1)
def f_X0_canBeJoinedWith_45 (rc2 : Nat → Nat → Int32 → Sg → Option (Int32 × Sg)) (r0 : Nat) (r1 : Nat) (x2 : Int32) (σ : Sg) : Option (Int32 × Sg) := if kd r0 = 0 then (if kd r1 = 0 then (rc2 r0 r1 (x2 + 1) σ) else none) else none
def f_X0_canBeJoinedWith_2  : Nat → Nat → Nat → Int32 → Sg → Option (Int32 × Sg)
  | 0, _, _, _, _ => none
  | n + 1, r0, r1, x2, σ => if kd r0 = 0 then (if kd r1 = 0 then (if 12 ≤ x2 then (some (1, σ)) else (if inb x2 12 then (if inb (σ (rf r0 0) (ix x2)) 12 then (bn (σ (rf r1 2) (ix (σ (rf r0 0) (ix x2)))) (fun b3 => if inb x2 12 then (if σ (rf r0 2) (ix x2) = 0 then (f_X0_canBeJoinedWith_45 (f_X0_canBeJoinedWith_2 n) r0 r1 x2 σ) else (if b3 = 0 then (f_X0_canBeJoinedWith_45 (f_X0_canBeJoinedWith_2 n) r0 r1 x2 σ) else (if inb x2 12 then (if σ (rf r0 2) (ix x2) = b3 then (f_X0_canBeJoinedWith_45 (f_X0_canBeJoinedWith_2 n) r0 r1 x2 σ) else (some (0, σ))) else none))) else none)) else none) else none)) else none) else none
def f_X0_canBeJoinedWith (r0 : Nat) (r1 : Nat) (σ : Sg) : Option (Int32 × Sg) := if kd r0 = 0 then (if kd r1 = 0 then (f_X0_canBeJoinedWith_2 FU r0 r1 0 σ) else none) else none
set_option maxRecDepth 100000 in
set_option maxHeartbeats 4000000 in
theorem aw_X0_canBeJoinedWith_45 (l : Launch) (G : Gt) (rc2 : Nat → Nat → Int32 → Sg → Option (Int32 × Sg)) (hr2 : ∀ (r0 : Nat) (r1 : Nat) (x2 : Int32) (σ : Sg), Aw l G MX0_canBeJoinedWith rI 2 [(0, .ref (Gb G + r0)), (1, .ref (Gb G + r1)), (2, .int x2)] [] σ (rc2 r0 r1 x2 σ)) (r0 : Nat) (r1 : Nat) (x2 : Int32) (σ : Sg) : Aw l G MX0_canBeJoinedWith rI 45 [(0, .ref (Gb G + r0)), (1, .ref (Gb G + r1)), (2, .int x2)] [] σ (f_X0_canBeJoinedWith_45 rc2 r0 r1 x2 σ) := by
  unfold f_X0_canBeJoinedWith_45
  refine Aw.gd (fun hr0 => ?_)
  refine Aw.gd (fun hr1 => ?_)
  refine Aw.iinc (v := x2 + 1) (L' := [(2, .int (x2 + 1)), (0, .ref (Gb G + r0)), (1, .ref (Gb G + r1))]) 2 rfl (ii_1 _) (Nat.le_of_ble_eq_true rfl) rfl rfl dX0_canBeJoinedWith_45 ?_
  refine Aw.goto (q := 2) (by decide) dX0_canBeJoinedWith_48 ?_
  refine Aw.sub (L' := [(0, .ref (Gb G + r0)), (1, .ref (Gb G + r1)), (2, .int (x2 + 1))]) [1, 2, 0] rfl ?_
  exact hr2 _ _ _ _
set_option maxRecDepth 100000 in
set_option maxHeartbeats 4000000 in
theorem aw_X0_canBeJoinedWith_2 (l : Launch) (G : Gt) : ∀ (n : Nat) (r0 : Nat) (r1 : Nat) (x2 : Int32) (σ : Sg), Aw l G MX0_canBeJoinedWith rI 2 [(0, .ref (Gb G + r0)), (1, .ref (Gb G + r1)), (2, .int x2)] [] σ (f_X0_canBeJoinedWith_2 n r0 r1 x2 σ) := by
  intro n
  induction n with
  | zero => intro r0 r1 x2 σ; exact Aw.no
  | succ n ih =>
    intro r0 r1 x2 σ
    rw [f_X0_canBeJoinedWith_2]
    refine Aw.gd (fun hr0 => ?_)
    refine Aw.gd (fun hr1 => ?_)
    refine Aw.iload_n 2 rfl rfl dX0_canBeJoinedWith_2 ?_
    refine Aw.bipush (v := 12) ib_12 rfl dX0_canBeJoinedWith_3 ?_
    refine Aw.icmp_ge (q := 8) (t := 51) rfl (by decide) dX0_canBeJoinedWith_5 (fun hc => ?_) (fun hc => ?_)
    · refine Aw.iconst (v := 1) ic_1 rfl dX0_canBeJoinedWith_51 ?_
      exact Aw.zret rfl rfl dX0_canBeJoinedWith_52
    · refine Aw.aload_n 1 rfl rfl dX0_canBeJoinedWith_8 ?_
      refine Aw.getR fl_X0_18 (Nat.le_of_ble_eq_true rfl) rfl hr1 rfl dX0_canBeJoinedWith_9 ?_
      refine Aw.aload_n 0 rfl rfl dX0_canBeJoinedWith_12 ?_
      refine Aw.getR fl_X0_9 (Nat.le_of_ble_eq_true rfl) rfl hr0 rfl dX0_canBeJoinedWith_13 ?_
      refine Aw.iload_n 2 rfl rfl dX0_canBeJoinedWith_16 ?_
      refine Aw.iald (n := 12) (ft_0_0 hr0).1 (ft_0_0 hr0).2 rfl dX0_canBeJoinedWith_17 (fun hb1 => ?_)
      refine Aw.iald (n := 12) (ft_0_2 hr1).1 (ft_0_2 hr1).2 rfl dX0_canBeJoinedWith_18 (fun hb2 => ?_)
      refine Aw.bi (fun b3 => ?_)
      refine Aw.istore_n (L' := [(3, .int b3), (0, .ref (Gb G + r0)), (1, .ref (Gb G + r1)), (2, .int x2)]) (Nat.le_of_ble_eq_true rfl) rfl rfl dX0_canBeJoinedWith_19 ?_
      refine Aw.aload_n 1 rfl rfl dX0_canBeJoinedWith_20 ?_
      refine Aw.getR fl_X0_18 (Nat.le_of_ble_eq_true rfl) rfl hr0 rfl dX0_canBeJoinedWith_21 ?_
      refine Aw.iload_n 3 rfl rfl dX0_canBeJoinedWith_24 ?_
      refine Aw.iald (n := 12) (ft_0_2 hr0).1 (ft_0_2 hr0).2 rfl dX0_canBeJoinedWith_25 (fun hb4 => ?_)
      refine Aw.if_eq (q := 29) (t := 45) rfl (by decide) dX0_canBeJoinedWith_26 (fun hc => ?_) (fun hc => ?_)
      · refine Aw.sub (L' := [(0, .ref (Gb G + r0)), (1, .ref (Gb G + r1)), (2, .int x2)]) [1, 2, 3] rfl ?_
        exact aw_X0_canBeJoinedWith_45 l G _ ih _ _ _ _
      · refine Aw.iload_n 0 rfl rfl dX0_canBeJoinedWith_29 ?_
        refine Aw.if_eq (q := 33) (t := 45) rfl (by decide) dX0_canBeJoinedWith_30 (fun hc => ?_) (fun hc => ?_)
        · refine Aw.sub (L' := [(0, .ref (Gb G + r0)), (1, .ref (Gb G + r1)), (2, .int x2)]) [1, 2, 3] rfl ?_
          exact aw_X0_canBeJoinedWith_45 l G _ ih _ _ _ _
        · refine Aw.aload_n 1 rfl rfl dX0_canBeJoinedWith_33 ?_
          refine Aw.getR fl_X0_18 (Nat.le_of_ble_eq_true rfl) rfl hr0 rfl dX0_canBeJoinedWith_34 ?_
          refine Aw.iload_n 3 rfl rfl dX0_canBeJoinedWith_37 ?_
          refine Aw.iald (n := 12) (ft_0_2 hr0).1 (ft_0_2 hr0).2 rfl dX0_canBeJoinedWith_38 (fun hb5 => ?_)
          refine Aw.iload_n 0 rfl rfl dX0_canBeJoinedWith_39 ?_
          refine Aw.icmp_eq (q := 43) (t := 45) rfl (by decide) dX0_canBeJoinedWith_40 (fun hc => ?_) (fun hc => ?_)
          · refine Aw.sub (L' := [(0, .ref (Gb G + r0)), (1, .ref (Gb G + r1)), (2, .int x2)]) [1, 2, 3] rfl ?_
            exact aw_X0_canBeJoinedWith_45 l G _ ih _ _ _ _
          · refine Aw.iconst (v := 0) ic_0 rfl dX0_canBeJoinedWith_43 ?_
            exact Aw.zret rfl rfl dX0_canBeJoinedWith_44
set_option maxRecDepth 100000 in
set_option maxHeartbeats 4000000 in
theorem ct_X0_canBeJoinedWith (l : Launch) (G : Gt) (r0 : Nat) (r1 : Nat) (σ : Sg) : Ct l G yX0_canBeJoinedWith MX0_canBeJoinedWith rI [.ref (Gb G + r0), .ref (Gb G + r1)] σ (f_X0_canBeJoinedWith r0 r1 σ) := by
  refine Ct.of (by decide +kernel) rfl (Nat.le_of_ble_eq_true rfl) ?_
  show Aw l G MX0_canBeJoinedWith rI 0 [(0, .ref (Gb G + r0)), (1, .ref (Gb G + r1))] [] σ _
  unfold f_X0_canBeJoinedWith
  refine Aw.gd (fun hr0 => ?_)
  refine Aw.gd (fun hr1 => ?_)
  refine Aw.iconst (v := 0) ic_0 rfl dX0_canBeJoinedWith_0 ?_
  refine Aw.istore_n (L' := [(2, .int 0), (0, .ref (Gb G + r0)), (1, .ref (Gb G + r1))]) (Nat.le_of_ble_eq_true rfl) rfl rfl dX0_canBeJoinedWith_1 ?_
  refine Aw.sub (L' := [(0, .ref (Gb G + r0)), (1, .ref (Gb G + r1)), (2, .int 0)]) [1, 2, 0] rfl ?_
  exact aw_X0_canBeJoinedWith_2 l G FU _ _ _ _
abbrev MX0_becomeJoined : Mt := (RX0, cX0_becomeJoined, 5, none, 1)
def f_X0_becomeJoined_81 (rc2 : Nat → Nat → Nat → Int32 → Sg → Option (Unit × Sg)) (r0 : Nat) (r1 : Nat) (r2 : Nat) (x3 : Int32) (sr0 : Nat) (s1 : Int32) (s2 : Int32) (σ : Sg) : Option (Unit × Sg) := if kd r0 = 0 then (if kd r1 = 0 then (if kd r2 = 0 then (if kd sr0 = 7 then (if inb s1 (ln sr0) then (bn (up σ sr0 (ix s1) s2) (fun τ2 => rc2 r0 r1 r2 (x3 + 1) τ2)) else none) else none) else none) else none) else none
def f_X0_becomeJoined_2  : Nat → Nat → Nat → Nat → Int32 → Sg → Option (Unit × Sg)
  | 0, _, _, _, _, _ => none
  | n + 1, r0, r1, r2, x3, σ => if kd r0 = 0 then (if kd r1 = 0 then (if kd r2 = 0 then (if 12 ≤ x3 then (some ((), σ)) else (if inb x3 12 then (bn (σ (rf r1 0) (ix x3)) (fun b2 => if inb b2 12 then (if inb x3 12 then (bn (up σ (rf r0 0) (ix x3) (σ (rf r2 0) (ix b2))) (fun τ5 => if inb x3 12 then (if inb b2 12 then (if inb x3 12 then (bn (up τ5 (rf r0 1) (ix x3) (rem ((τ5 (rf r1 1) (ix x3)) + (τ5 (rf r2 1) (ix b2))) 4)) (fun τ9 => if inb x3 12 then (if τ9 (rf r1 2) (ix x3) = 0 then (if inb b2 12 then (f_X0_becomeJoined_81 (f_X0_becomeJoined_2 n) r0 r1 r2 x3 (rf r0 2) x3 (τ9 (rf r2 2) (ix b2)) τ9) else none) else (if inb x3 12 then (f_X0_becomeJoined_81 (f_X0_becomeJoined_2 n) r0 r1 r2 x3 (rf r0 2) x3 (τ9 (rf r1 2) (ix x3)) τ9) else none)) else none)) else none) else none) else none)) else none) else none)) else none)) else none) else none) else none
def f_X0_becomeJoined (r0 : Nat) (r1 : Nat) (r2 : Nat) (σ : Sg) : Option (Unit × Sg) := if kd r0 = 0 then (if kd r1 = 0 then (if kd r2 = 0 then (f_X0_becomeJoined_2 FU r0 r1 r2 0 σ) else none) else none) else none
set_option maxRecDepth 100000 in
set_option maxHeartbeats 4000000 in
theorem aw_X0_becomeJoined_81 (l : Launch) (G : Gt) (rc2 : Nat → Nat → Nat → Int32 → Sg → Option (Unit × Sg)) (hr2 : ∀ (r0 : Nat) (r1 : Nat) (r2 : Nat) (x3 : Int32) (σ : Sg), Aw l G MX0_becomeJoined rV 2 [(0, .ref (Gb G + r0)), (1, .ref (Gb G + r1)), (2, .ref (Gb G + r2)), (3, .int x3)] [] σ (rc2 r0 r1 r2 x3 σ)) (r0 : Nat) (r1 : Nat) (r2 : Nat) (x3 : Int32) (sr0 : Nat) (s1 : Int32) (s2 : Int32) (σ : Sg) : Aw l G MX0_becomeJoined rV 81 [(0, .ref (Gb G + r0)), (1, .ref (Gb G + r1)), (2, .ref (Gb G + r2)), (3, .int x3)] [.int s2, .int s1, .ref (Gb G + sr0)] σ (f_X0_becomeJoined_81 rc2 r0 r1 r2 x3 sr0 s1 s2 σ) := by
  unfold f_X0_becomeJoined_81
  refine Aw.gd (fun hr0 => ?_)
  refine Aw.gd (fun hr1 => ?_)
  refine Aw.gd (fun hr2 => ?_)
  refine Aw.gd (fun hsr0 => ?_)
  refine Aw.iast (n := ln sr0) hsr0 rfl rfl dX0_becomeJoined_81 (fun hb1 => ?_)
  refine Aw.bs (fun τ2 => ?_)
  refine Aw.iinc (v := x3 + 1) (L' := [(3, .int (x3 + 1)), (0, .ref (Gb G + r0)), (1, .ref (Gb G + r1)), (2, .ref (Gb G + r2))]) 3 rfl (ii_1 _) (Nat.le_of_ble_eq_true rfl) rfl rfl dX0_becomeJoined_82 ?_
  refine Aw.goto (q := 2) (by decide) dX0_becomeJoined_85 ?_
  refine Aw.sub (L' := [(0, .ref (Gb G + r0)), (1, .ref (Gb G + r1)), (2, .ref (Gb G + r2)), (3, .int (x3 + 1))]) [1, 2, 3, 0] rfl ?_
  exact hr2 _ _ _ _ _
set_option maxRecDepth 100000 in
set_option maxHeartbeats 4000000 in
theorem aw_X0_becomeJoined_2 (l : Launch) (G : Gt) : ∀ (n : Nat) (r0 : Nat) (r1 : Nat) (r2 : Nat) (x3 : Int32) (σ : Sg), Aw l G MX0_becomeJoined rV 2 [(0, .ref (Gb G + r0)), (1, .ref (Gb G + r1)), (2, .ref (Gb G + r2)), (3, .int x3)] [] σ (f_X0_becomeJoined_2 n r0 r1 r2 x3 σ) := by
  intro n
  induction n with
  | zero => intro r0 r1 r2 x3 σ; exact Aw.no
  | succ n ih =>
    intro r0 r1 r2 x3 σ
    rw [f_X0_becomeJoined_2]
    refine Aw.gd (fun hr0 => ?_)
    refine Aw.gd (fun hr1 => ?_)
    refine Aw.gd (fun hr2 => ?_)
    refine Aw.iload_n 3 rfl rfl dX0_becomeJoined_2 ?_
    refine Aw.bipush (v := 12) ib_12 rfl dX0_becomeJoined_3 ?_
    refine Aw.icmp_ge (q := 8) (t := 88) rfl (by decide) dX0_becomeJoined_5 (fun hc => ?_) (fun hc => ?_)
    · exact Aw.vret rfl dX0_becomeJoined_88
    · refine Aw.aload_n 1 rfl rfl dX0_becomeJoined_8 ?_
      refine Aw.getR fl_X0_9 (Nat.le_of_ble_eq_true rfl) rfl hr1 rfl dX0_becomeJoined_9 ?_
      refine Aw.iload_n 3 rfl rfl dX0_becomeJoined_12 ?_
      refine Aw.iald (n := 12) (ft_0_0 hr1).1 (ft_0_0 hr1).2 rfl dX0_becomeJoined_13 (fun hb1 => ?_)
      refine Aw.bi (fun b2 => ?_)
      refine Aw.istore (L' := [(4, .int b2), (0, .ref (Gb G + r0)), (1, .ref (Gb G + r1)), (2, .ref (Gb G + r2)), (3, .int x3)]) (Nat.le_of_ble_eq_true rfl) rfl rfl dX0_becomeJoined_14 ?_
      refine Aw.aload_n 1 rfl rfl dX0_becomeJoined_16 ?_
      refine Aw.getR fl_X0_9 (Nat.le_of_ble_eq_true rfl) rfl hr0 rfl dX0_becomeJoined_17 ?_
      refine Aw.iload_n 4 rfl rfl dX0_becomeJoined_20 ?_
      refine Aw.aload_n 3 rfl rfl dX0_becomeJoined_21 ?_
      refine Aw.getR fl_X0_9 (Nat.le_of_ble_eq_true rfl) rfl hr2 rfl dX0_becomeJoined_22 ?_
      refine Aw.iload 0 rfl rfl dX0_becomeJoined_25 ?_
      refine Aw.iald (n := 12) (ft_0_0 hr2).1 (ft_0_0 hr2).2 rfl dX0_becomeJoined_27 (fun hb3 => ?_)
      refine Aw.iast (n := 12) (ft_0_0 hr0).1 (ft_0_0 hr0).2 rfl dX0_becomeJoined_28 (fun hb4 => ?_)
      refine Aw.bs (fun τ5 => ?_)
      refine Aw.aload_n 1 rfl rfl dX0_becomeJoined_29 ?_
      refine Aw.getR fl_X0_15 (Nat.le_of_ble_eq_true rfl) rfl hr0 rfl dX0_becomeJoined_30 ?_
      refine Aw.iload_n 4 rfl rfl dX0_becomeJoined_33 ?_
      refine Aw.aload_n 2 rfl rfl dX0_becomeJoined_34 ?_
      refine Aw.getR fl_X0_15 (Nat.le_of_ble_eq_true rfl) rfl hr1 rfl dX0_becomeJoined_35 ?_
      refine Aw.iload_n 4 rfl rfl dX0_becomeJoined_38 ?_
      refine Aw.iald (n := 12) (ft_0_1 hr1).1 (ft_0_1 hr1).2 rfl dX0_becomeJoined_39 (fun hb6 => ?_)
      refine Aw.aload_n 3 rfl rfl dX0_becomeJoined_40 ?_
      refine Aw.getR fl_X0_15 (Nat.le_of_ble_eq_true rfl) rfl hr2 rfl dX0_becomeJoined_41 ?_
      refine Aw.iload 0 rfl rfl dX0_becomeJoined_44 ?_
      refine Aw.iald (n := 12) (ft_0_1 hr2).1 (ft_0_1 hr2).2 rfl dX0_becomeJoined_46 (fun hb7 => ?_)
      refine Aw.iadd rfl dX0_becomeJoined_47 ?_
      refine Aw.iconst (v := 4) ic_4 rfl dX0_becomeJoined_48 ?_
      refine Aw.irem nz_4 rfl dX0_becomeJoined_49 ?_
      refine Aw.iast (n := 12) (ft_0_1 hr0).1 (ft_0_1 hr0).2 rfl dX0_becomeJoined_50 (fun hb8 => ?_)
      refine Aw.bs (fun τ9 => ?_)
      refine Aw.aload_n 1 rfl rfl dX0_becomeJoined_51 ?_
      refine Aw.getR fl_X0_18 (Nat.le_of_ble_eq_true rfl) rfl hr0 rfl dX0_becomeJoined_52 ?_
      refine Aw.iload_n 4 rfl rfl dX0_becomeJoined_55 ?_
      refine Aw.aload_n 2 rfl rfl dX0_becomeJoined_56 ?_
      refine Aw.getR fl_X0_18 (Nat.le_of_ble_eq_true rfl) rfl hr1 rfl dX0_becomeJoined_57 ?_
      refine Aw.iload_n 4 rfl rfl dX0_becomeJoined_60 ?_
      refine Aw.iald (n := 12) (ft_0_2 hr1).1 (ft_0_2 hr1).2 rfl dX0_becomeJoined_61 (fun hb10 => ?_)
      refine Aw.if_eq (q := 65) (t := 74) rfl (by decide) dX0_becomeJoined_62 (fun hc => ?_) (fun hc => ?_)
      · refine Aw.aload_n 3 rfl rfl dX0_becomeJoined_74 ?_
        refine Aw.getR fl_X0_18 (Nat.le_of_ble_eq_true rfl) rfl hr2 rfl dX0_becomeJoined_75 ?_
        refine Aw.iload 0 rfl rfl dX0_becomeJoined_78 ?_
        refine Aw.iald (n := 12) (ft_0_2 hr2).1 (ft_0_2 hr2).2 rfl dX0_becomeJoined_80 (fun hb11 => ?_)
        refine Aw.sub (L' := [(0, .ref (Gb G + r0)), (1, .ref (Gb G + r1)), (2, .ref (Gb G + r2)), (3, .int x3)]) [1, 2, 3, 4] rfl ?_
        exact aw_X0_becomeJoined_81 l G _ ih _ _ _ _ _ _ _ _
      · refine Aw.aload_n 2 rfl rfl dX0_becomeJoined_65 ?_
        refine Aw.getR fl_X0_18 (Nat.le_of_ble_eq_true rfl) rfl hr1 rfl dX0_becomeJoined_66 ?_
        refine Aw.iload_n 4 rfl rfl dX0_becomeJoined_69 ?_
        refine Aw.iald (n := 12) (ft_0_2 hr1).1 (ft_0_2 hr1).2 rfl dX0_becomeJoined_70 (fun hb12 => ?_)
        refine Aw.goto (q := 81) (by decide) dX0_becomeJoined_71 ?_
        refine Aw.sub (L' := [(0, .ref (Gb G + r0)), (1, .ref (Gb G + r1)), (2, .ref (Gb G + r2)), (3, .int x3)]) [1, 2, 3, 4] rfl ?_
        exact aw_X0_becomeJoined_81 l G _ ih _ _ _ _ _ _ _ _
set_option maxRecDepth 100000 in
set_option maxHeartbeats 4000000 in
theorem ct_X0_becomeJoined (l : Launch) (G : Gt) (r0 : Nat) (r1 : Nat) (r2 : Nat) (σ : Sg) : Ct l G yX0_becomeJoined MX0_becomeJoined rV [.ref (Gb G + r0), .ref (Gb G + r1), .ref (Gb G + r2)] σ (f_X0_becomeJoined r0 r1 r2 σ) := by
  refine Ct.of (by decide +kernel) rfl (Nat.le_of_ble_eq_true rfl) ?_
  show Aw l G MX0_becomeJoined rV 0 [(0, .ref (Gb G + r0)), (1, .ref (Gb G + r1)), (2, .ref (Gb G + r2))] [] σ _
  unfold f_X0_becomeJoined
  refine Aw.gd (fun hr0 => ?_)
  refine Aw.gd (fun hr1 => ?_)
  refine Aw.gd (fun hr2 => ?_)
  refine Aw.iconst (v := 0) ic_0 rfl dX0_becomeJoined_0 ?_
  refine Aw.istore_n (L' := [(3, .int 0), (0, .ref (Gb G + r0)), (1, .ref (Gb G + r1)), (2, .ref (Gb G + r2))]) (Nat.le_of_ble_eq_true rfl) rfl rfl dX0_becomeJoined_1 ?_
  refine Aw.sub (L' := [(0, .ref (Gb G + r0)), (1, .ref (Gb G + r1)), (2, .ref (Gb G + r2)), (3, .int 0)]) [1, 2, 3, 0] rfl ?_
  exact aw_X0_becomeJoined_2 l G FU _ _ _ _ _
abbrev MX0_becomeTurnedBack : Mt := (RX0, cX0_becomeTurnedBack, 4, none, 1)
def f_X0_becomeTurnedBack_2  : Nat → Nat → Nat → Int32 → Sg → Option (Unit × Sg)
  | 0, _, _, _, _ => none
  | n + 1, r0, r1, x2, σ => if kd r0 = 0 then (if kd r1 = 0 then (if 12 ≤ x2 then (some ((), σ)) else (if inb x2 12 then (bn (σ (rf r1 0) (ix x2)) (fun b2 => if inb b2 12 then (bn (up σ (rf r0 0) (ix b2) x2) (fun τ4 => if inb x2 12 then (if inb b2 12 then (bn (up τ4 (rf r0 1) (ix b2) (rem (4 - (τ4 (rf r1 1) (ix x2))) 4)) (fun τ7 => if inb x2 12 then (if inb b2 12 then (bn (up τ7 (rf r0 2) (ix b2) (τ7 (rf r1 2) (ix x2))) (fun τ10 => f_X0_becomeTurnedBack_2 n r0 r1 (x2 + 1) τ10)) else none) else none)) else none) else none)) else none)) else none)) else none) else none
def f_X0_becomeTurnedBack (r0 : Nat) (r1 : Nat) (σ : Sg) : Option (Unit × Sg) := if kd r0 = 0 then (if kd r1 = 0 then (f_X0_becomeTurnedBack_2 FU r0 r1 0 σ) else none) else none
set_option maxRecDepth 100000 in
set_option maxHeartbeats 4000000 in
theorem aw_X0_becomeTurnedBack_2 (l : Launch) (G : Gt) : ∀ (n : Nat) (r0 : Nat) (r1 : Nat) (x2 : Int32) (σ : Sg), Aw l G MX0_becomeTurnedBack rV 2 [(0, .ref (Gb G + r0)), (1, .ref (Gb G + r1)), (2, .int x2)] [] σ (f_X0_becomeTurnedBack_2 n r0 r1 x2 σ) := by
  intro n
  induction n with
  | zero => intro r0 r1 x2 σ; exact Aw.no
  | succ n ih =>
    intro r0 r1 x2 σ
    rw [f_X0_becomeTurnedBack_2]
    refine Aw.gd (fun hr0 => ?_)
    refine Aw.gd (fun hr1 => ?_)
    refine Aw.iload_n 2 rfl rfl dX0_becomeTurnedBack_2 ?_
    refine Aw.bipush (v := 12) ib_12 rfl dX0_becomeTurnedBack_3 ?_
    refine Aw.icmp_ge (q := 8) (t := 56) rfl (by decide) dX0_becomeTurnedBack_5 (fun hc => ?_) (fun hc => ?_)
    · exact Aw.vret rfl dX0_becomeTurnedBack_56
    · refine Aw.aload_n 1 rfl rfl dX0_becomeTurnedBack_8 ?_
      refine Aw.getR fl_X0_9 (Nat.le_of_ble_eq_true rfl) rfl hr1 rfl dX0_becomeTurnedBack_9 ?_
      refine Aw.iload_n 2 rfl rfl dX0_becomeTurnedBack_12 ?_
      refine Aw.iald (n := 12) (ft_0_0 hr1).1 (ft_0_0 hr1).2 rfl dX0_becomeTurnedBack_13 (fun hb1 => ?_)
      refine Aw.bi (fun b2 => ?_)
      refine Aw.istore_n (L' := [(3, .int b2), (0, .ref (Gb G + r0)), (1, .ref (Gb G + r1)), (2, .int x2)]) (Nat.le_of_ble_eq_true rfl) rfl rfl dX0_becomeTurnedBack_14 ?_
      refine Aw.aload_n 1 rfl rfl dX0_becomeTurnedBack_15 ?_
      refine Aw.getR fl_X0_9 (Nat.le_of_ble_eq_true rfl) rfl hr0 rfl dX0_becomeTurnedBack_16 ?_
      refine Aw.iload_n 0 rfl rfl dX0_becomeTurnedBack_19 ?_
      refine Aw.iload_n 3 rfl rfl dX0_becomeTurnedBack_20 ?_
      refine Aw.iast (n := 12) (ft_0_0 hr0).1 (ft_0_0 hr0).2 rfl dX0_becomeTurnedBack_21 (fun hb3 => ?_)
      refine Aw.bs (fun τ4 => ?_)
      refine Aw.aload_n 1 rfl rfl dX0_becomeTurnedBack_22 ?_
      refine Aw.getR fl_X0_15 (Nat.le_of_ble_eq_true rfl) rfl hr0 rfl dX0_becomeTurnedBack_23 ?_
      refine Aw.iload_n 0 rfl rfl dX0_becomeTurnedBack_26 ?_
      refine Aw.iconst (v := 4) ic_4 rfl dX0_becomeTurnedBack_27 ?_
      refine Aw.aload_n 2 rfl rfl dX0_becomeTurnedBack_28 ?_
      refine Aw.getR fl_X0_15 (Nat.le_of_ble_eq_true rfl) rfl hr1 rfl dX0_becomeTurnedBack_29 ?_
      refine Aw.iload_n 3 rfl rfl dX0_becomeTurnedBack_32 ?_
      refine Aw.iald (n := 12) (ft_0_1 hr1).1 (ft_0_1 hr1).2 rfl dX0_becomeTurnedBack_33 (fun hb5 => ?_)
      refine Aw.isub rfl dX0_becomeTurnedBack_34 ?_
      refine Aw.iconst (v := 4) ic_4 rfl dX0_becomeTurnedBack_35 ?_
      refine Aw.irem nz_4 rfl dX0_becomeTurnedBack_36 ?_
      refine Aw.iast (n := 12) (ft_0_1 hr0).1 (ft_0_1 hr0).2 rfl dX0_becomeTurnedBack_37 (fun hb6 => ?_)
      refine Aw.bs (fun τ7 => ?_)
      refine Aw.aload_n 1 rfl rfl dX0_becomeTurnedBack_38 ?_
      refine Aw.getR fl_X0_18 (Nat.le_of_ble_eq_true rfl) rfl hr0 rfl dX0_becomeTurnedBack_39 ?_
      refine Aw.iload_n 0 rfl rfl dX0_becomeTurnedBack_42 ?_
      refine Aw.aload_n 2 rfl rfl dX0_becomeTurnedBack_43 ?_
      refine Aw.getR fl_X0_18 (Nat.le_of_ble_eq_true rfl) rfl hr1 rfl dX0_becomeTurnedBack_44 ?_
      refine Aw.iload_n 3 rfl rfl dX0_becomeTurnedBack_47 ?_
      refine Aw.iald (n := 12) (ft_0_2 hr1).1 (ft_0_2 hr1).2 rfl dX0_becomeTurnedBack_48 (fun hb8 => ?_)
      refine Aw.iast (n := 12) (ft_0_2 hr0).1 (ft_0_2 hr0).2 rfl dX0_becomeTurnedBack_49 (fun hb9 => ?_)
      refine Aw.bs (fun τ10 => ?_)
      refine Aw.iinc (v := x2 + 1) (L' := [(2, .int (x2 + 1)), (3, .int b2), (0, .ref (Gb G + r0)), (1, .ref (Gb G + r1))]) 3 rfl (ii_1 _) (Nat.le_of_ble_eq_true rfl) rfl rfl dX0_becomeTurnedBack_50 ?_
      refine Aw.goto (q := 2) (by decide) dX0_becomeTurnedBack_53 ?_
      refine Aw.sub (L' := [(0, .ref (Gb G + r0)), (1, .ref (Gb G + r1)), (2, .int (x2 + 1))]) [2, 3, 0] rfl ?_
      exact ih _ _ _ _
set_option maxRecDepth 100000 in
set_option maxHeartbeats 4000000 in
theorem ct_X0_becomeTurnedBack (l : Launch) (G : Gt) (r0 : Nat) (r1 : Nat) (σ : Sg) : Ct l G yX0_becomeTurnedBack MX0_becomeTurnedBack rV [.ref (Gb G + r0), .ref (Gb G + r1)] σ (f_X0_becomeTurnedBack r0 r1 σ) := by
  refine Ct.of (by decide +kernel) rfl (Nat.le_of_ble_eq_true rfl) ?_
  show Aw l G MX0_becomeTurnedBack rV 0 [(0, .ref (Gb G + r0)), (1, .ref (Gb G + r1))] [] σ _
  unfold f_X0_becomeTurnedBack
  refine Aw.gd (fun hr0 => ?_)
  refine Aw.gd (fun hr1 => ?_)
  refine Aw.iconst (v := 0) ic_0 rfl dX0_becomeTurnedBack_0 ?_
  refine Aw.istore_n (L' := [(2, .int 0), (0, .ref (Gb G + r0)), (1, .ref (Gb G + r1))]) (Nat.le_of_ble_eq_true rfl) rfl rfl dX0_becomeTurnedBack_1 ?_
  refine Aw.sub (L' := [(0, .ref (Gb G + r0)), (1, .ref (Gb G + r1)), (2, .int 0)]) [1, 2, 0] rfl ?_
  exact aw_X0_becomeTurnedBack_2 l G FU _ _ _ _
abbrev MX0_placeBehind : Mt := (RX0, cX0_placeBehind, 3, (some .int), 1)
def f_X0_placeBehind (r0 : Nat) (x1 : Int32) (σ : Sg) : Option (Int32 × Sg) := if kd r0 = 0 then (bn (x1 / 4) (fun b1 => if inb b1 12 then (if inb b1 12 then (some (((σ (rf r0 0) (ix b1)) * 4) + (rem (x1 + (σ (rf r0 1) (ix b1))) 4), σ)) else none) else none)) else none
set_option maxRecDepth 100000 in
set_option maxHeartbeats 4000000 in
theorem ct_X0_placeBehind (l : Launch) (G : Gt) (r0 : Nat) (x1 : Int32) (σ : Sg) : Ct l G yX0_placeBehind MX0_placeBehind rI [.ref (Gb G + r0), .int x1] σ (f_X0_placeBehind r0 x1 σ) := by
  refine Ct.of (by decide +kernel) rfl (Nat.le_of_ble_eq_true rfl) ?_
  show Aw l G MX0_placeBehind rI 0 [(0, .ref (Gb G + r0)), (1, .int x1)] [] σ _
  unfold f_X0_placeBehind
  refine Aw.gd (fun hr0 => ?_)
  refine Aw.iload_n 1 rfl rfl dX0_placeBehind_0 ?_
  refine Aw.iconst (v := 4) ic_4 rfl dX0_placeBehind_1 ?_
  refine Aw.idiv nz_4 rfl dX0_placeBehind_2 ?_
  refine Aw.bi (fun b1 => ?_)
  refine Aw.istore_n (L' := [(2, .int b1), (0, .ref (Gb G + r0)), (1, .int x1)]) (Nat.le_of_ble_eq_true rfl) rfl rfl dX0_placeBehind_3 ?_
  refine Aw.aload_n 1 rfl rfl dX0_placeBehind_4 ?_
  refine Aw.getR fl_X0_9 (Nat.le_of_ble_eq_true rfl) rfl hr0 rfl dX0_placeBehind_5 ?_
  refine Aw.iload_n 0 rfl rfl dX0_placeBehind_8 ?_
  refine Aw.iald (n := 12) (ft_0_0 hr0).1 (ft_0_0 hr0).2 rfl dX0_placeBehind_9 (fun hb2 => ?_)
  refine Aw.iconst (v := 4) ic_4 rfl dX0_placeBehind_10 ?_
  refine Aw.imul rfl dX0_placeBehind_11 ?_
  refine Aw.iload_n 2 rfl rfl dX0_placeBehind_12 ?_
  refine Aw.aload_n 1 rfl rfl dX0_placeBehind_13 ?_
  refine Aw.getR fl_X0_15 (Nat.le_of_ble_eq_true rfl) rfl hr0 rfl dX0_placeBehind_14 ?_
  refine Aw.iload_n 0 rfl rfl dX0_placeBehind_17 ?_
  refine Aw.iald (n := 12) (ft_0_1 hr0).1 (ft_0_1 hr0).2 rfl dX0_placeBehind_18 (fun hb3 => ?_)
  refine Aw.iadd rfl dX0_placeBehind_19 ?_
  refine Aw.iconst (v := 4) ic_4 rfl dX0_placeBehind_20 ?_
  refine Aw.irem nz_4 rfl dX0_placeBehind_21 ?_
  refine Aw.iadd rfl dX0_placeBehind_22 ?_
  exact Aw.iret rfl dX0_placeBehind_23
abbrev MX0_spotsThatWant : Mt := (RX0, cX0_spotsThatWant, 4, (some .int), 1)
def f_X0_spotsThatWant_26 (rc4 : Nat → Int32 → Int32 → Int32 → Sg → Option (Int32 × Sg)) (r0 : Nat) (x1 : Int32) (x2 : Int32) (x3 : Int32) (σ : Sg) : Option (Int32 × Sg) := if kd r0 = 0 then (rc4 r0 x1 x2 (x3 + 1) σ) else none
def f_X0_spotsThatWant_4  : Nat → Nat → Int32 → Int32 → Int32 → Sg → Option (Int32 × Sg)
  | 0, _, _, _, _, _ => none
  | n + 1, r0, x1, x2, x3, σ => if kd r0 = 0 then (if 12 ≤ x3 then (some (x2, σ)) else (if inb x3 12 then (if σ (rf r0 2) (ix x3) = x1 then (bn (x2 ||| (1 <<< (x3 &&& 31))) (fun b2 => f_X0_spotsThatWant_26 (f_X0_spotsThatWant_4 n) r0 x1 b2 x3 σ)) else (f_X0_spotsThatWant_26 (f_X0_spotsThatWant_4 n) r0 x1 x2 x3 σ)) else none)) else none
def f_X0_spotsThatWant (r0 : Nat) (x1 : Int32) (σ : Sg) : Option (Int32 × Sg) := if kd r0 = 0 then (f_X0_spotsThatWant_4 FU r0 x1 0 0 σ) else none
set_option maxRecDepth 100000 in
set_option maxHeartbeats 4000000 in
theorem aw_X0_spotsThatWant_26 (l : Launch) (G : Gt) (rc4 : Nat → Int32 → Int32 → Int32 → Sg → Option (Int32 × Sg)) (hr4 : ∀ (r0 : Nat) (x1 : Int32) (x2 : Int32) (x3 : Int32) (σ : Sg), Aw l G MX0_spotsThatWant rI 4 [(0, .ref (Gb G + r0)), (1, .int x1), (2, .int x2), (3, .int x3)] [] σ (rc4 r0 x1 x2 x3 σ)) (r0 : Nat) (x1 : Int32) (x2 : Int32) (x3 : Int32) (σ : Sg) : Aw l G MX0_spotsThatWant rI 26 [(0, .ref (Gb G + r0)), (1, .int x1), (2, .int x2), (3, .int x3)] [] σ (f_X0_spotsThatWant_26 rc4 r0 x1 x2 x3 σ) := by
  unfold f_X0_spotsThatWant_26
  refine Aw.gd (fun hr0 => ?_)
  refine Aw.iinc (v := x3 + 1) (L' := [(3, .int (x3 + 1)), (0, .ref (Gb G + r0)), (1, .int x1), (2, .int x2)]) 3 rfl (ii_1 _) (Nat.le_of_ble_eq_true rfl) rfl rfl dX0_spotsThatWant_26 ?_
  refine Aw.goto (q := 4) (by decide) dX0_spotsThatWant_29 ?_
  refine Aw.sub (L' := [(0, .ref (Gb G + r0)), (1, .int x1), (2, .int x2), (3, .int (x3 + 1))]) [1, 2, 3, 0] rfl ?_
  exact hr4 _ _ _ _ _
set_option maxRecDepth 100000 in
set_option maxHeartbeats 4000000 in
theorem aw_X0_spotsThatWant_4 (l : Launch) (G : Gt) : ∀ (n : Nat) (r0 : Nat) (x1 : Int32) (x2 : Int32) (x3 : Int32) (σ : Sg), Aw l G MX0_spotsThatWant rI 4 [(0, .ref (Gb G + r0)), (1, .int x1), (2, .int x2), (3, .int x3)] [] σ (f_X0_spotsThatWant_4 n r0 x1 x2 x3 σ) := by
  intro n
  induction n with
  | zero => intro r0 x1 x2 x3 σ; exact Aw.no
  | succ n ih =>
    intro r0 x1 x2 x3 σ
    rw [f_X0_spotsThatWant_4]
    refine Aw.gd (fun hr0 => ?_)
    refine Aw.iload_n 3 rfl rfl dX0_spotsThatWant_4 ?_
    refine Aw.bipush (v := 12) ib_12 rfl dX0_spotsThatWant_5 ?_
    refine Aw.icmp_ge (q := 10) (t := 32) rfl (by decide) dX0_spotsThatWant_7 (fun hc => ?_) (fun hc => ?_)
    · refine Aw.iload_n 2 rfl rfl dX0_spotsThatWant_32 ?_
      exact Aw.iret rfl dX0_spotsThatWant_33
    · refine Aw.aload_n 0 rfl rfl dX0_spotsThatWant_10 ?_
      refine Aw.getR fl_X0_18 (Nat.le_of_ble_eq_true rfl) rfl hr0 rfl dX0_spotsThatWant_11 ?_
      refine Aw.iload_n 3 rfl rfl dX0_spotsThatWant_14 ?_
      refine Aw.iald (n := 12) (ft_0_2 hr0).1 (ft_0_2 hr0).2 rfl dX0_spotsThatWant_15 (fun hb1 => ?_)
      refine Aw.iload_n 1 rfl rfl dX0_spotsThatWant_16 ?_
      refine Aw.icmp_ne (q := 20) (t := 26) rfl (by decide) dX0_spotsThatWant_17 (fun hc => ?_) (fun hc => ?_)
      · refine Aw.iload_n 2 rfl rfl dX0_spotsThatWant_20 ?_
        refine Aw.iconst (v := 1) ic_1 rfl dX0_spotsThatWant_21 ?_
        refine Aw.iload_n 3 rfl rfl dX0_spotsThatWant_22 ?_
        refine Aw.ishl rfl dX0_spotsThatWant_23 ?_
        refine Aw.ior rfl dX0_spotsThatWant_24 ?_
        refine Aw.bi (fun b2 => ?_)
        refine Aw.istore_n (L' := [(2, .int b2), (0, .ref (Gb G + r0)), (1, .int x1), (3, .int x3)]) (Nat.le_of_ble_eq_true rfl) rfl rfl dX0_spotsThatWant_25 ?_
        refine Aw.sub (L' := [(0, .ref (Gb G + r0)), (1, .int x1), (2, .int b2), (3, .int x3)]) [1, 2, 0, 3] rfl ?_
        exact aw_X0_spotsThatWant_26 l G _ ih _ _ _ _ _
      · refine Aw.sub (L' := [(0, .ref (Gb G + r0)), (1, .int x1), (2, .int x2), (3, .int x3)]) [0, 1, 2, 3] rfl ?_
        exact aw_X0_spotsThatWant_26 l G _ ih _ _ _ _ _
set_option maxRecDepth 100000 in
set_option maxHeartbeats 4000000 in
theorem ct_X0_spotsThatWant (l : Launch) (G : Gt) (r0 : Nat) (x1 : Int32) (σ : Sg) : Ct l G yX0_spotsThatWant MX0_spotsThatWant rI [.ref (Gb G + r0), .int x1] σ (f_X0_spotsThatWant r0 x1 σ) := by
  refine Ct.of (by decide +kernel) rfl (Nat.le_of_ble_eq_true rfl) ?_
  show Aw l G MX0_spotsThatWant rI 0 [(0, .ref (Gb G + r0)), (1, .int x1)] [] σ _
  unfold f_X0_spotsThatWant
  refine Aw.gd (fun hr0 => ?_)
  refine Aw.iconst (v := 0) ic_0 rfl dX0_spotsThatWant_0 ?_
  refine Aw.istore_n (L' := [(2, .int 0), (0, .ref (Gb G + r0)), (1, .int x1)]) (Nat.le_of_ble_eq_true rfl) rfl rfl dX0_spotsThatWant_1 ?_
  refine Aw.iconst (v := 0) ic_0 rfl dX0_spotsThatWant_2 ?_
  refine Aw.istore_n (L' := [(3, .int 0), (2, .int 0), (0, .ref (Gb G + r0)), (1, .int x1)]) (Nat.le_of_ble_eq_true rfl) rfl rfl dX0_spotsThatWant_3 ?_
  refine Aw.sub (L' := [(0, .ref (Gb G + r0)), (1, .int x1), (2, .int 0), (3, .int 0)]) [2, 3, 1, 0] rfl ?_
  exact aw_X0_spotsThatWant_4 l G FU _ _ _ _ _
abbrev MX0_fitsOn : Mt := (RX0, cX0_fitsOn, 3, (some .boolean), 2)
def f_X0_fitsOn (r0 : Nat) (x1 : Int32) (σ : Sg) : Option (Int32 × Sg) := if kd r0 = 0 then (cb (f_X0_spotsThatWant r0 1 σ) (fun a1 τ2 => if x1 &&& a1 = a1 then (cb (f_X0_spotsThatWant r0 2 τ2) (fun a3 τ4 => if x1 &&& a3 = 0 then (some (1, τ4)) else (some (0, τ4)))) else (some (0, τ2)))) else none
theorem cv_X0_27 : CV RX0 27 0 yX0_spotsThatWant MX0_spotsThatWant 1 := ⟨_, rfl, rfl, ml_X0_27, ins_X0_spotsThatWant, sel_X0_spotsThatWant, ini_X0, cw_X0_spotsThatWant, ⟨by decide, by decide, by decide +kernel⟩⟩
set_option maxRecDepth 100000 in
set_option maxHeartbeats 4000000 in
theorem ct_X0_fitsOn (l : Launch) (G : Gt) (r0 : Nat) (x1 : Int32) (σ : Sg) : Ct l G yX0_fitsOn MX0_fitsOn rI [.ref (Gb G + r0), .int x1] σ (f_X0_fitsOn r0 x1 σ) := by
  refine Ct.of (by decide +kernel) rfl (Nat.le_of_ble_eq_true rfl) ?_
  show Aw l G MX0_fitsOn rI 0 [(0, .ref (Gb G + r0)), (1, .int x1)] [] σ _
  unfold f_X0_fitsOn
  refine Aw.gd (fun hr0 => ?_)
  refine Aw.aload_n 0 rfl rfl dX0_fitsOn_0 ?_
  refine Aw.iconst (v := 1) ic_1 rfl dX0_fitsOn_1 ?_
  refine Aw.callVi (As := [.int 1]) (rest := []) cv_X0_27 (Nat.le_of_ble_eq_true rfl) hr0 (ct_X0_spotsThatWant l G r0 1 σ) rfl rfl (Nat.le_of_ble_eq_true rfl) (Nat.le_of_ble_eq_true rfl) (Nat.le_of_ble_eq_true rfl) rfl dX0_fitsOn_2 (fun a1 τ2 _ => ?_)
  refine Aw.istore_n (L' := [(2, .int a1), (0, .ref (Gb G + r0)), (1, .int x1)]) (Nat.le_of_ble_eq_true rfl) rfl rfl dX0_fitsOn_5 ?_
  refine Aw.iload_n 2 rfl rfl dX0_fitsOn_6 ?_
  refine Aw.iload_n 0 rfl rfl dX0_fitsOn_7 ?_
  refine Aw.iand rfl dX0_fitsOn_8 ?_
  refine Aw.iload_n 0 rfl rfl dX0_fitsOn_9 ?_
  refine Aw.icmp_ne (q := 13) (t := 27) rfl (by decide) dX0_fitsOn_10 (fun hc => ?_) (fun hc => ?_)
  · refine Aw.iload_n 2 rfl rfl dX0_fitsOn_13 ?_
    refine Aw.aload_n 1 rfl rfl dX0_fitsOn_14 ?_
    refine Aw.iconst (v := 2) ic_2 rfl dX0_fitsOn_15 ?_
    refine Aw.callVi (As := [.int 2]) (rest := [.int x1]) cv_X0_27 (Nat.le_of_ble_eq_true rfl) hr0 (ct_X0_spotsThatWant l G r0 2 τ2) rfl rfl (Nat.le_of_ble_eq_true rfl) (Nat.le_of_ble_eq_true rfl) (Nat.le_of_ble_eq_true rfl) rfl dX0_fitsOn_16 (fun a3 τ4 _ => ?_)
    refine Aw.iand rfl dX0_fitsOn_19 ?_
    refine Aw.if_ne (q := 23) (t := 27) rfl (by decide) dX0_fitsOn_20 (fun hc => ?_) (fun hc => ?_)
    · refine Aw.iconst (v := 1) ic_1 rfl dX0_fitsOn_23 ?_
      refine Aw.goto (q := 28) (by decide) dX0_fitsOn_24 ?_
      exact Aw.zret rfl rfl dX0_fitsOn_28
    · refine Aw.iconst (v := 0) ic_0 rfl dX0_fitsOn_27 ?_
      exact Aw.zret rfl rfl dX0_fitsOn_28
  · refine Aw.iconst (v := 0) ic_0 rfl dX0_fitsOn_27 ?_
    exact Aw.zret rfl rfl dX0_fitsOn_28
abbrev MX0_spotsThatMove : Mt := (RX0, cX0_spotsThatMove, 3, (some .int), 1)
def f_X0_spotsThatMove_26 (rc4 : Nat → Int32 → Int32 → Sg → Option (Int32 × Sg)) (r0 : Nat) (x2 : Int32) (s0 : Int32) (s1 : Int32) (σ : Sg) : Option (Int32 × Sg) := if kd r0 = 0 then (bn (s0 + s1) (fun b1 => rc4 r0 b1 (x2 + 1) σ)) else none
def f_X0_spotsThatMove_4  : Nat → Nat → Int32 → Int32 → Sg → Option (Int32 × Sg)
  | 0, _, _, _, _ => none
  | n + 1, r0, x1, x2, σ => if kd r0 = 0 then (if 12 ≤ x2 then (some (x1, σ)) else (if inb x2 12 then (if σ (rf r0 0) (ix x2) = x2 then (f_X0_spotsThatMove_26 (f_X0_spotsThatMove_4 n) r0 x2 x1 0 σ) else (f_X0_spotsThatMove_26 (f_X0_spotsThatMove_4 n) r0 x2 x1 1 σ)) else none)) else none
def f_X0_spotsThatMove (r0 : Nat) (σ : Sg) : Option (Int32 × Sg) := if kd r0 = 0 then (f_X0_spotsThatMove_4 FU r0 0 0 σ) else none
set_option maxRecDepth 100000 in
set_option maxHeartbeats 4000000 in
theorem aw_X0_spotsThatMove_26 (l : Launch) (G : Gt) (rc4 : Nat → Int32 → Int32 → Sg → Option (Int32 × Sg)) (hr4 : ∀ (r0 : Nat) (x1 : Int32) (x2 : Int32) (σ : Sg), Aw l G MX0_spotsThatMove rI 4 [(0, .ref (Gb G + r0)), (1, .int x1), (2, .int x2)] [] σ (rc4 r0 x1 x2 σ)) (r0 : Nat) (x2 : Int32) (s0 : Int32) (s1 : Int32) (σ : Sg) : Aw l G MX0_spotsThatMove rI 26 [(0, .ref (Gb G + r0)), (2, .int x2)] [.int s1, .int s0] σ (f_X0_spotsThatMove_26 rc4 r0 x2 s0 s1 σ) := by
  unfold f_X0_spotsThatMove_26
  refine Aw.gd (fun hr0 => ?_)
  refine Aw.iadd rfl dX0_spotsThatMove_26 ?_
  refine Aw.bi (fun b1 => ?_)
  refine Aw.istore_n (L' := [(1, .int b1), (0, .ref (Gb G + r0)), (2, .int x2)]) (Nat.le_of_ble_eq_true rfl) rfl rfl dX0_spotsThatMove_27 ?_
  refine Aw.iinc (v := x2 + 1) (L' := [(2, .int (x2 + 1)), (1, .int b1), (0, .ref (Gb G + r0))]) 2 rfl (ii_1 _) (Nat.le_of_ble_eq_true rfl) rfl rfl dX0_spotsThatMove_28 ?_
  refine Aw.goto (q := 4) (by decide) dX0_spotsThatMove_31 ?_
  refine Aw.sub (L' := [(0, .ref (Gb G + r0)), (1, .int b1), (2, .int (x2 + 1))]) [2, 1, 0] rfl ?_
  exact hr4 _ _ _ _
set_option maxRecDepth 100000 in
set_option maxHeartbeats 4000000 in
theorem aw_X0_spotsThatMove_4 (l : Launch) (G : Gt) : ∀ (n : Nat) (r0 : Nat) (x1 : Int32) (x2 : Int32) (σ : Sg), Aw l G MX0_spotsThatMove rI 4 [(0, .ref (Gb G + r0)), (1, .int x1), (2, .int x2)] [] σ (f_X0_spotsThatMove_4 n r0 x1 x2 σ) := by
  intro n
  induction n with
  | zero => intro r0 x1 x2 σ; exact Aw.no
  | succ n ih =>
    intro r0 x1 x2 σ
    rw [f_X0_spotsThatMove_4]
    refine Aw.gd (fun hr0 => ?_)
    refine Aw.iload_n 2 rfl rfl dX0_spotsThatMove_4 ?_
    refine Aw.bipush (v := 12) ib_12 rfl dX0_spotsThatMove_5 ?_
    refine Aw.icmp_ge (q := 10) (t := 34) rfl (by decide) dX0_spotsThatMove_7 (fun hc => ?_) (fun hc => ?_)
    · refine Aw.iload_n 1 rfl rfl dX0_spotsThatMove_34 ?_
      exact Aw.iret rfl dX0_spotsThatMove_35
    · refine Aw.iload_n 1 rfl rfl dX0_spotsThatMove_10 ?_
      refine Aw.aload_n 0 rfl rfl dX0_spotsThatMove_11 ?_
      refine Aw.getR fl_X0_9 (Nat.le_of_ble_eq_true rfl) rfl hr0 rfl dX0_spotsThatMove_12 ?_
      refine Aw.iload_n 2 rfl rfl dX0_spotsThatMove_15 ?_
      refine Aw.iald (n := 12) (ft_0_0 hr0).1 (ft_0_0 hr0).2 rfl dX0_spotsThatMove_16 (fun hb1 => ?_)
      refine Aw.iload_n 2 rfl rfl dX0_spotsThatMove_17 ?_
      refine Aw.icmp_eq (q := 21) (t := 25) rfl (by decide) dX0_spotsThatMove_18 (fun hc => ?_) (fun hc => ?_)
      · refine Aw.iconst (v := 0) ic_0 rfl dX0_spotsThatMove_25 ?_
        refine Aw.sub (L' := [(0, .ref (Gb G + r0)), (2, .int x2)]) [0, 2] rfl ?_
        exact aw_X0_spotsThatMove_26 l G _ ih _ _ _ _ _
      · refine Aw.iconst (v := 1) ic_1 rfl dX0_spotsThatMove_21 ?_
        refine Aw.goto (q := 26) (by decide) dX0_spotsThatMove_22 ?_
        refine Aw.sub (L' := [(0, .ref (Gb G + r0)), (2, .int x2)]) [0, 2] rfl ?_
        exact aw_X0_spotsThatMove_26 l G _ ih _ _ _ _ _
set_option maxRecDepth 100000 in
set_option maxHeartbeats 4000000 in
theorem ct_X0_spotsThatMove (l : Launch) (G : Gt) (r0 : Nat) (σ : Sg) : Ct l G yX0_spotsThatMove MX0_spotsThatMove rI [.ref (Gb G + r0)] σ (f_X0_spotsThatMove r0 σ) := by
  refine Ct.of (by decide +kernel) rfl (Nat.le_of_ble_eq_true rfl) ?_
  show Aw l G MX0_spotsThatMove rI 0 [(0, .ref (Gb G + r0))] [] σ _
  unfold f_X0_spotsThatMove
  refine Aw.gd (fun hr0 => ?_)
  refine Aw.iconst (v := 0) ic_0 rfl dX0_spotsThatMove_0 ?_
  refine Aw.istore_n (L' := [(1, .int 0), (0, .ref (Gb G + r0))]) (Nat.le_of_ble_eq_true rfl) rfl rfl dX0_spotsThatMove_1 ?_
  refine Aw.iconst (v := 0) ic_0 rfl dX0_spotsThatMove_2 ?_
  refine Aw.istore_n (L' := [(2, .int 0), (1, .int 0), (0, .ref (Gb G + r0))]) (Nat.le_of_ble_eq_true rfl) rfl rfl dX0_spotsThatMove_3 ?_
  refine Aw.sub (L' := [(0, .ref (Gb G + r0)), (1, .int 0), (2, .int 0)]) [2, 1, 0] rfl ?_
  exact aw_X0_spotsThatMove_4 l G FU _ _ _ _
abbrev MJ6_bitCount_0f7a4 : Mt := (RJ6, cJ6_bitCount_0f7a4, 1, (some .int), 1)
def f_J6_bitCount_0f7a4 (x0 : Int32) (σ : Sg) : Option (Int32 × Sg) := bn (x0 - (((x0.toUInt32 >>> (Int32.toUInt32 1 &&& Int32.toUInt32 31)).toInt32) &&& 1431655765)) (fun b1 => bn ((b1 &&& 858993459) + (((b1.toUInt32 >>> (Int32.toUInt32 2 &&& Int32.toUInt32 31)).toInt32) &&& 858993459)) (fun b2 => bn ((b2 + ((b2.toUInt32 >>> (Int32.toUInt32 4 &&& Int32.toUInt32 31)).toInt32)) &&& 252645135) (fun b3 => bn (b3 + ((b3.toUInt32 >>> (Int32.toUInt32 8 &&& Int32.toUInt32 31)).toInt32)) (fun b4 => bn (b4 + ((b4.toUInt32 >>> (Int32.toUInt32 16 &&& Int32.toUInt32 31)).toInt32)) (fun b5 => some (b5 &&& 63, σ))))))
set_option maxRecDepth 100000 in
set_option maxHeartbeats 4000000 in
theorem ct_J6_bitCount_0f7a4 (l : Launch) (G : Gt) (x0 : Int32) (σ : Sg) : Ct l G yJ6_bitCount_0f7a4 MJ6_bitCount_0f7a4 rI [.int x0] σ (f_J6_bitCount_0f7a4 x0 σ) := by
  refine Ct.of (by decide +kernel) rfl (Nat.le_of_ble_eq_true rfl) ?_
  show Aw l G MJ6_bitCount_0f7a4 rI 0 [(0, .int x0)] [] σ _
  unfold f_J6_bitCount_0f7a4
  refine Aw.iload_n 0 rfl rfl dJ6_bitCount_0f7a4_0 ?_
  refine Aw.iload_n 0 rfl rfl dJ6_bitCount_0f7a4_1 ?_
  refine Aw.iconst (v := 1) ic_1 rfl dJ6_bitCount_0f7a4_2 ?_
  refine Aw.iushr rfl dJ6_bitCount_0f7a4_3 ?_
  refine Aw.ldcw kc_J6_265 rfl dJ6_bitCount_0f7a4_4 ?_
  refine Aw.iand rfl dJ6_bitCount_0f7a4_7 ?_
  refine Aw.isub rfl dJ6_bitCount_0f7a4_8 ?_
  refine Aw.bi (fun b1 => ?_)
  refine Aw.istore_n (L' := [(0, .int b1)]) (Nat.le_of_ble_eq_true rfl) rfl rfl dJ6_bitCount_0f7a4_9 ?_
  refine Aw.iload_n 0 rfl rfl dJ6_bitCount_0f7a4_10 ?_
  refine Aw.ldcw kc_J6_266 rfl dJ6_bitCount_0f7a4_11 ?_
  refine Aw.iand rfl dJ6_bitCount_0f7a4_14 ?_
  refine Aw.iload_n 0 rfl rfl dJ6_bitCount_0f7a4_15 ?_
  refine Aw.iconst (v := 2) ic_2 rfl dJ6_bitCount_0f7a4_16 ?_
  refine Aw.iushr rfl dJ6_bitCount_0f7a4_17 ?_
  refine Aw.ldcw kc_J6_266 rfl dJ6_bitCount_0f7a4_18 ?_
  refine Aw.iand rfl dJ6_bitCount_0f7a4_21 ?_
  refine Aw.iadd rfl dJ6_bitCount_0f7a4_22 ?_
  refine Aw.bi (fun b2 => ?_)
  refine Aw.istore_n (L' := [(0, .int b2)]) (Nat.le_of_ble_eq_true rfl) rfl rfl dJ6_bitCount_0f7a4_23 ?_
  refine Aw.iload_n 0 rfl rfl dJ6_bitCount_0f7a4_24 ?_
  refine Aw.iload_n 0 rfl rfl dJ6_bitCount_0f7a4_25 ?_
  refine Aw.iconst (v := 4) ic_4 rfl dJ6_bitCount_0f7a4_26 ?_
  refine Aw.iushr rfl dJ6_bitCount_0f7a4_27 ?_
  refine Aw.iadd rfl dJ6_bitCount_0f7a4_28 ?_
  refine Aw.ldcw kc_J6_267 rfl dJ6_bitCount_0f7a4_29 ?_
  refine Aw.iand rfl dJ6_bitCount_0f7a4_32 ?_
  refine Aw.bi (fun b3 => ?_)
  refine Aw.istore_n (L' := [(0, .int b3)]) (Nat.le_of_ble_eq_true rfl) rfl rfl dJ6_bitCount_0f7a4_33 ?_
  refine Aw.iload_n 0 rfl rfl dJ6_bitCount_0f7a4_34 ?_
  refine Aw.iload_n 0 rfl rfl dJ6_bitCount_0f7a4_35 ?_
  refine Aw.bipush (v := 8) ib_8 rfl dJ6_bitCount_0f7a4_36 ?_
  refine Aw.iushr rfl dJ6_bitCount_0f7a4_38 ?_
  refine Aw.iadd rfl dJ6_bitCount_0f7a4_39 ?_
  refine Aw.bi (fun b4 => ?_)
  refine Aw.istore_n (L' := [(0, .int b4)]) (Nat.le_of_ble_eq_true rfl) rfl rfl dJ6_bitCount_0f7a4_40 ?_
  refine Aw.iload_n 0 rfl rfl dJ6_bitCount_0f7a4_41 ?_
  refine Aw.iload_n 0 rfl rfl dJ6_bitCount_0f7a4_42 ?_
  refine Aw.bipush (v := 16) ib_16 rfl dJ6_bitCount_0f7a4_43 ?_
  refine Aw.iushr rfl dJ6_bitCount_0f7a4_45 ?_
  refine Aw.iadd rfl dJ6_bitCount_0f7a4_46 ?_
  refine Aw.bi (fun b5 => ?_)
  refine Aw.istore_n (L' := [(0, .int b5)]) (Nat.le_of_ble_eq_true rfl) rfl rfl dJ6_bitCount_0f7a4_47 ?_
  refine Aw.iload_n 0 rfl rfl dJ6_bitCount_0f7a4_48 ?_
  refine Aw.bipush (v := 63) ib_63 rfl dJ6_bitCount_0f7a4_49 ?_
  refine Aw.iand rfl dJ6_bitCount_0f7a4_51 ?_
  exact Aw.iret rfl dJ6_bitCount_0f7a4_52
abbrev MX0_spotsWithWant : Mt := (RX0, cX0_spotsWithWant, 1, (some .int), 2)
def f_X0_spotsWithWant (r0 : Nat) (σ : Sg) : Option (Int32 × Sg) := if kd r0 = 0 then (cb (f_X0_spotsThatWant r0 0 σ) (fun a1 τ2 => cb (f_J6_bitCount_0f7a4 a1 τ2) (fun a3 τ4 => some (12 - a3, τ4)))) else none
theorem cs_X0_31 : CS RX0 31 yJ6_bitCount_0f7a4 MJ6_bitCount_0f7a4 1 := ⟨ml_X0_31, sta_J6_bitCount_0f7a4, ini_J6, cw_J6_bitCount_0f7a4, ⟨by decide, by decide, by decide +kernel⟩⟩
set_option maxRecDepth 100000 in
set_option maxHeartbeats 4000000 in
theorem ct_X0_spotsWithWant (l : Launch) (G : Gt) (r0 : Nat) (σ : Sg) : Ct l G yX0_spotsWithWant MX0_spotsWithWant rI [.ref (Gb G + r0)] σ (f_X0_spotsWithWant r0 σ) := by
  refine Ct.of (by decide +kernel) rfl (Nat.le_of_ble_eq_true rfl) ?_
  show Aw l G MX0_spotsWithWant rI 0 [(0, .ref (Gb G + r0))] [] σ _
  unfold f_X0_spotsWithWant
  refine Aw.gd (fun hr0 => ?_)
  refine Aw.bipush (v := 12) ib_12 rfl dX0_spotsWithWant_0 ?_
  refine Aw.aload_n 0 rfl rfl dX0_spotsWithWant_2 ?_
  refine Aw.iconst (v := 0) ic_0 rfl dX0_spotsWithWant_3 ?_
  refine Aw.callVi (As := [.int 0]) (rest := [.int 12]) cv_X0_27 (Nat.le_of_ble_eq_true rfl) hr0 (ct_X0_spotsThatWant l G r0 0 σ) rfl rfl (Nat.le_of_ble_eq_true rfl) (Nat.le_of_ble_eq_true rfl) (Nat.le_of_ble_eq_true rfl) rfl dX0_spotsWithWant_4 (fun a1 τ2 _ => ?_)
  refine Aw.callSi (As := [.int a1]) (rest := [.int 12]) cs_X0_31 (ct_J6_bitCount_0f7a4 l G a1 τ2) rfl rfl (Nat.le_of_ble_eq_true rfl) (Nat.le_of_ble_eq_true rfl) (Nat.le_of_ble_eq_true rfl) rfl dX0_spotsWithWant_7 (fun a3 τ4 _ => ?_)
  refine Aw.isub rfl dX0_spotsWithWant_10 ?_
  exact Aw.iret rfl dX0_spotsWithWant_11
abbrev MX0_leastCommonMultiple : Mt := (RX0, cX0_leastCommonMultiple, 3, (some .int), 1)
def f_X0_leastCommonMultiple_2  : Nat → Int32 → Int32 → Int32 → Sg → Option (Int32 × Sg)
  | 0, _, _, _, _ => none
  | n + 1, x0, x1, x2, σ => if x1 ≤ x2 then (some (x0 * x1, σ)) else (if ¬ x1 = 0 then (if rem (x0 * x2) x1 = 0 then (some (x0 * x2, σ)) else (f_X0_leastCommonMultiple_2 n x0 x1 (x2 + 1) σ)) else none)
def f_X0_leastCommonMultiple (x0 : Int32) (x1 : Int32) (σ : Sg) : Option (Int32 × Sg) := f_X0_leastCommonMultiple_2 FU x0 x1 1 σ
set_option maxRecDepth 100000 in
set_option maxHeartbeats 4000000 in
theorem aw_X0_leastCommonMultiple_2 (l : Launch) (G : Gt) : ∀ (n : Nat) (x0 : Int32) (x1 : Int32) (x2 : Int32) (σ : Sg), Aw l G MX0_leastCommonMultiple rI 2 [(0, .int x0), (1, .int x1), (2, .int x2)] [] σ (f_X0_leastCommonMultiple_2 n x0 x1 x2 σ) := by
  intro n
  induction n with
  | zero => intro x0 x1 x2 σ; exact Aw.no
  | succ n ih =>
    intro x0 x1 x2 σ
    rw [f_X0_leastCommonMultiple_2]
    refine Aw.iload_n 2 rfl rfl dX0_leastCommonMultiple_2 ?_
    refine Aw.iload_n 1 rfl rfl dX0_leastCommonMultiple_3 ?_
    refine Aw.icmp_ge (q := 7) (t := 25) rfl (by decide) dX0_leastCommonMultiple_4 (fun hc => ?_) (fun hc => ?_)
    · refine Aw.iload_n 0 rfl rfl dX0_leastCommonMultiple_25 ?_
      refine Aw.iload_n 1 rfl rfl dX0_leastCommonMultiple_26 ?_
      refine Aw.imul rfl dX0_leastCommonMultiple_27 ?_
      exact Aw.iret rfl dX0_leastCommonMultiple_28
    · refine Aw.iload_n 0 rfl rfl dX0_leastCommonMultiple_7 ?_
      refine Aw.iload_n 2 rfl rfl dX0_leastCommonMultiple_8 ?_
      refine Aw.imul rfl dX0_leastCommonMultiple_9 ?_
      refine Aw.iload_n 1 rfl rfl dX0_leastCommonMultiple_10 ?_
      refine Aw.gd (fun hz1 => ?_)
      refine Aw.irem hz1 rfl dX0_leastCommonMultiple_11 ?_
      refine Aw.if_ne (q := 15) (t := 19) rfl (by decide) dX0_leastCommonMultiple_12 (fun hc => ?_) (fun hc => ?_)
      · refine Aw.iload_n 0 rfl rfl dX0_leastCommonMultiple_15 ?_
        refine Aw.iload_n 2 rfl rfl dX0_leastCommonMultiple_16 ?_
        refine Aw.imul rfl dX0_leastCommonMultiple_17 ?_
        exact Aw.iret rfl dX0_leastCommonMultiple_18
      · refine Aw.iinc (v := x2 + 1) (L' := [(2, .int (x2 + 1)), (0, .int x0), (1, .int x1)]) 2 rfl (ii_1 _) (Nat.le_of_ble_eq_true rfl) rfl rfl dX0_leastCommonMultiple_19 ?_
        refine Aw.goto (q := 2) (by decide) dX0_leastCommonMultiple_22 ?_
        refine Aw.sub (L' := [(0, .int x0), (1, .int x1), (2, .int (x2 + 1))]) [1, 2, 0] rfl ?_
        exact ih _ _ _ _
set_option maxRecDepth 100000 in
set_option maxHeartbeats 4000000 in
theorem ct_X0_leastCommonMultiple (l : Launch) (G : Gt) (x0 : Int32) (x1 : Int32) (σ : Sg) : Ct l G yX0_leastCommonMultiple MX0_leastCommonMultiple rI [.int x0, .int x1] σ (f_X0_leastCommonMultiple x0 x1 σ) := by
  refine Ct.of (by decide +kernel) rfl (Nat.le_of_ble_eq_true rfl) ?_
  show Aw l G MX0_leastCommonMultiple rI 0 [(0, .int x0), (1, .int x1)] [] σ _
  unfold f_X0_leastCommonMultiple
  refine Aw.iconst (v := 1) ic_1 rfl dX0_leastCommonMultiple_0 ?_
  refine Aw.istore_n (L' := [(2, .int 1), (0, .int x0), (1, .int x1)]) (Nat.le_of_ble_eq_true rfl) rfl rfl dX0_leastCommonMultiple_1 ?_
  refine Aw.sub (L' := [(0, .int x0), (1, .int x1), (2, .int 1)]) [1, 2, 0] rfl ?_
  exact aw_X0_leastCommonMultiple_2 l G FU _ _ _ _
abbrev MX0_timesToFaceAhead : Mt := (RX0, cX0_timesToFaceAhead, 2, (some .int), 1)
def f_X0_timesToFaceAhead (x0 : Int32) (σ : Sg) : Option (Int32 × Sg) := bn (rem x0 4) (fun b1 => if b1 = 0 then (some (1, σ)) else (if b1 = 2 then (some (2, σ)) else (some (4, σ))))
set_option maxRecDepth 100000 in
set_option maxHeartbeats 4000000 in
theorem ct_X0_timesToFaceAhead (l : Launch) (G : Gt) (x0 : Int32) (σ : Sg) : Ct l G yX0_timesToFaceAhead MX0_timesToFaceAhead rI [.int x0] σ (f_X0_timesToFaceAhead x0 σ) := by
  refine Ct.of (by decide +kernel) rfl (Nat.le_of_ble_eq_true rfl) ?_
  show Aw l G MX0_timesToFaceAhead rI 0 [(0, .int x0)] [] σ _
  unfold f_X0_timesToFaceAhead
  refine Aw.iload_n 0 rfl rfl dX0_timesToFaceAhead_0 ?_
  refine Aw.iconst (v := 4) ic_4 rfl dX0_timesToFaceAhead_1 ?_
  refine Aw.irem nz_4 rfl dX0_timesToFaceAhead_2 ?_
  refine Aw.bi (fun b1 => ?_)
  refine Aw.istore_n (L' := [(1, .int b1), (0, .int x0)]) (Nat.le_of_ble_eq_true rfl) rfl rfl dX0_timesToFaceAhead_3 ?_
  refine Aw.iload_n 0 rfl rfl dX0_timesToFaceAhead_4 ?_
  refine Aw.if_ne (q := 8) (t := 12) rfl (by decide) dX0_timesToFaceAhead_5 (fun hc => ?_) (fun hc => ?_)
  · refine Aw.iconst (v := 1) ic_1 rfl dX0_timesToFaceAhead_8 ?_
    refine Aw.goto (q := 22) (by decide) dX0_timesToFaceAhead_9 ?_
    exact Aw.iret rfl dX0_timesToFaceAhead_22
  · refine Aw.iload_n 0 rfl rfl dX0_timesToFaceAhead_12 ?_
    refine Aw.iconst (v := 2) ic_2 rfl dX0_timesToFaceAhead_13 ?_
    refine Aw.icmp_ne (q := 17) (t := 21) rfl (by decide) dX0_timesToFaceAhead_14 (fun hc => ?_) (fun hc => ?_)
    · refine Aw.iconst (v := 2) ic_2 rfl dX0_timesToFaceAhead_17 ?_
      refine Aw.goto (q := 22) (by decide) dX0_timesToFaceAhead_18 ?_
      exact Aw.iret rfl dX0_timesToFaceAhead_22
    · refine Aw.iconst (v := 4) ic_4 rfl dX0_timesToFaceAhead_21 ?_
      exact Aw.iret rfl dX0_timesToFaceAhead_22
abbrev MX0_round : Mt := (RX0, cX0_round, 7, (some .int), 2)
def f_X0_round_95 (rc6 : Nat → Int32 → Int32 → Int32 → Sg → Option (Int32 × Sg)) (r0 : Nat) (x1 : Int32) (x2 : Int32) (x3 : Int32) (σ : Sg) : Option (Int32 × Sg) := if kd r0 = 0 then (rc6 r0 x1 x2 (x3 + 1) σ) else none
def f_X0_round_82 (rc6 : Nat → Int32 → Int32 → Int32 → Sg → Option (Int32 × Sg)) (r0 : Nat) (x1 : Int32) (x2 : Int32) (x3 : Int32) (x4 : Int32) (x5 : Int32) (σ : Sg) : Option (Int32 × Sg) := if kd r0 = 0 then (cb (f_X0_timesToFaceAhead x5 σ) (fun a1 τ2 => cb (f_X0_leastCommonMultiple x1 (x4 * a1) τ2) (fun a3 τ4 => f_X0_round_95 rc6 r0 a3 x2 x3 τ4))) else none
def f_X0_round_32 (rc6 : Nat → Int32 → Int32 → Int32 → Sg → Option (Int32 × Sg)) : Nat → Nat → Int32 → Int32 → Int32 → Int32 → Int32 → Int32 → Sg → Option (Int32 × Sg)
  | 0, _, _, _, _, _, _, _, _ => none
  | n + 1, r0, x1, x2, x3, x4, x5, x6, σ => if kd r0 = 0 then (if 12 ≤ x4 then (f_X0_round_82 rc6 r0 x1 x2 x3 x4 x5 σ) else (if (x2 >>> (x6 &&& 31)) &&& 1 = 0 then (bn (x2 ||| (1 <<< (x6 &&& 31))) (fun b1 => if inb x6 12 then (bn (x5 + (σ (rf r0 1) (ix x6))) (fun b3 => if inb x6 12 then (bn (σ (rf r0 0) (ix x6)) (fun b5 => f_X0_round_32 rc6 n r0 x1 b1 x3 (x4 + 1) b3 b5 σ)) else none)) else none)) else (f_X0_round_82 rc6 r0 x1 x2 x3 x4 x5 σ))) else none
def f_X0_round_6  : Nat → Nat → Int32 → Int32 → Int32 → Sg → Option (Int32 × Sg)
  | 0, _, _, _, _, _ => none
  | n + 1, r0, x1, x2, x3, σ => if kd r0 = 0 then (if 12 ≤ x3 then (some (x1, σ)) else (if (x2 >>> (x3 &&& 31)) &&& 1 = 0 then (f_X0_round_32 (f_X0_round_6 n) FU r0 x1 x2 x3 0 0 x3 σ) else (f_X0_round_95 (f_X0_round_6 n) r0 x1 x2 x3 σ))) else none
def f_X0_round (r0 : Nat) (σ : Sg) : Option (Int32 × Sg) := if kd r0 = 0 then (f_X0_round_6 FU r0 1 0 0 σ) else none
theorem cs_X0_36 : CS RX0 36 yX0_timesToFaceAhead MX0_timesToFaceAhead 1 := ⟨ml_X0_36, sta_X0_timesToFaceAhead, ini_X0, cw_X0_timesToFaceAhead, ⟨by decide, by decide, by decide +kernel⟩⟩
theorem cs_X0_39 : CS RX0 39 yX0_leastCommonMultiple MX0_leastCommonMultiple 2 := ⟨ml_X0_39, sta_X0_leastCommonMultiple, ini_X0, cw_X0_leastCommonMultiple, ⟨by decide, by decide, by decide +kernel⟩⟩
set_option maxRecDepth 100000 in
set_option maxHeartbeats 4000000 in
theorem aw_X0_round_95 (l : Launch) (G : Gt) (rc6 : Nat → Int32 → Int32 → Int32 → Sg → Option (Int32 × Sg)) (hr6 : ∀ (r0 : Nat) (x1 : Int32) (x2 : Int32) (x3 : Int32) (σ : Sg), Aw l G MX0_round rI 6 [(0, .ref (Gb G + r0)), (1, .int x1), (2, .int x2), (3, .int x3)] [] σ (rc6 r0 x1 x2 x3 σ)) (r0 : Nat) (x1 : Int32) (x2 : Int32) (x3 : Int32) (σ : Sg) : Aw l G MX0_round rI 95 [(0, .ref (Gb G + r0)), (1, .int x1), (2, .int x2), (3, .int x3)] [] σ (f_X0_round_95 rc6 r0 x1 x2 x3 σ) := by
  unfold f_X0_round_95
  refine Aw.gd (fun hr0 => ?_)
  refine Aw.iinc (v := x3 + 1) (L' := [(3, .int (x3 + 1)), (0, .ref (Gb G + r0)), (1, .int x1), (2, .int x2)]) 3 rfl (ii_1 _) (Nat.le_of_ble_eq_true rfl) rfl rfl dX0_round_95 ?_
  refine Aw.goto (q := 6) (by decide) dX0_round_98 ?_
  refine Aw.sub (L' := [(0, .ref (Gb G + r0)), (1, .int x1), (2, .int x2), (3, .int (x3 + 1))]) [1, 2, 3, 0] rfl ?_
  exact hr6 _ _ _ _ _
set_option maxRecDepth 100000 in
set_option maxHeartbeats 4000000 in
theorem aw_X0_round_82 (l : Launch) (G : Gt) (rc6 : Nat → Int32 → Int32 → Int32 → Sg → Option (Int32 × Sg)) (hr6 : ∀ (r0 : Nat) (x1 : Int32) (x2 : Int32) (x3 : Int32) (σ : Sg), Aw l G MX0_round rI 6 [(0, .ref (Gb G + r0)), (1, .int x1), (2, .int x2), (3, .int x3)] [] σ (rc6 r0 x1 x2 x3 σ)) (r0 : Nat) (x1 : Int32) (x2 : Int32) (x3 : Int32) (x4 : Int32) (x5 : Int32) (σ : Sg) : Aw l G MX0_round rI 82 [(0, .ref (Gb G + r0)), (1, .int x1), (2, .int x2), (3, .int x3), (4, .int x4), (5, .int x5)] [] σ (f_X0_round_82 rc6 r0 x1 x2 x3 x4 x5 σ) := by
  unfold f_X0_round_82
  refine Aw.gd (fun hr0 => ?_)
  refine Aw.iload_n 1 rfl rfl dX0_round_82 ?_
  refine Aw.iload 4 rfl rfl dX0_round_83 ?_
  refine Aw.iload 5 rfl rfl dX0_round_85 ?_
  refine Aw.callSi (As := [.int x5]) (rest := [.int x4, .int x1]) cs_X0_36 (ct_X0_timesToFaceAhead l G x5 σ) rfl rfl (Nat.le_of_ble_eq_true rfl) (Nat.le_of_ble_eq_true rfl) (Nat.le_of_ble_eq_true rfl) rfl dX0_round_87 (fun a1 τ2 _ => ?_)
  refine Aw.imul rfl dX0_round_90 ?_
  refine Aw.callSi (As := [.int x1, .int (x4 * a1)]) (rest := []) cs_X0_39 (ct_X0_leastCommonMultiple l G x1 (x4 * a1) τ2) rfl rfl (Nat.le_of_ble_eq_true rfl) (Nat.le_of_ble_eq_true rfl) (Nat.le_of_ble_eq_true rfl) rfl dX0_round_91 (fun a3 τ4 _ => ?_)
  refine Aw.istore_n (L' := [(1, .int a3), (0, .ref (Gb G + r0)), (2, .int x2), (3, .int x3), (4, .int x4), (5, .int x5)]) (Nat.le_of_ble_eq_true rfl) rfl rfl dX0_round_94 ?_
  refine Aw.sub (L' := [(0, .ref (Gb G + r0)), (1, .int a3), (2, .int x2), (3, .int x3)]) [1, 0, 2, 3] rfl ?_
  exact aw_X0_round_95 l G _ hr6 _ _ _ _ _
set_option maxRecDepth 100000 in
set_option maxHeartbeats 4000000 in
theorem aw_X0_round_32 (l : Launch) (G : Gt) (rc6 : Nat → Int32 → Int32 → Int32 → Sg → Option (Int32 × Sg)) (hr6 : ∀ (r0 : Nat) (x1 : Int32) (x2 : Int32) (x3 : Int32) (σ : Sg), Aw l G MX0_round rI 6 [(0, .ref (Gb G + r0)), (1, .int x1), (2, .int x2), (3, .int x3)] [] σ (rc6 r0 x1 x2 x3 σ)) : ∀ (n : Nat) (r0 : Nat) (x1 : Int32) (x2 : Int32) (x3 : Int32) (x4 : Int32) (x5 : Int32) (x6 : Int32) (σ : Sg), Aw l G MX0_round rI 32 [(0, .ref (Gb G + r0)), (1, .int x1), (2, .int x2), (3, .int x3), (4, .int x4), (5, .int x5), (6, .int x6)] [] σ (f_X0_round_32 rc6 n r0 x1 x2 x3 x4 x5 x6 σ) := by
  intro n
  induction n with
  | zero => intro r0 x1 x2 x3 x4 x5 x6 σ; exact Aw.no
  | succ n ih =>
    intro r0 x1 x2 x3 x4 x5 x6 σ
    rw [f_X0_round_32]
    refine Aw.gd (fun hr0 => ?_)
    refine Aw.iload 4 rfl rfl dX0_round_32 ?_
    refine Aw.bipush (v := 12) ib_12 rfl dX0_round_34 ?_
    refine Aw.icmp_ge (q := 39) (t := 82) rfl (by decide) dX0_round_36 (fun hc => ?_) (fun hc => ?_)
    · refine Aw.sub (L' := [(0, .ref (Gb G + r0)), (1, .int x1), (2, .int x2), (3, .int x3), (4, .int x4), (5, .int x5)]) [0, 1, 2, 3, 4, 5] rfl ?_
      exact aw_X0_round_82 l G _ hr6 _ _ _ _ _ _ _
    · refine Aw.iload_n 2 rfl rfl dX0_round_39 ?_
      refine Aw.iload 6 rfl rfl dX0_round_40 ?_
      refine Aw.ishr rfl dX0_round_42 ?_
      refine Aw.iconst (v := 1) ic_1 rfl dX0_round_43 ?_
      refine Aw.iand rfl dX0_round_44 ?_
      refine Aw.if_ne (q := 48) (t := 82) rfl (by decide) dX0_round_45 (fun hc => ?_) (fun hc => ?_)
      · refine Aw.iload_n 2 rfl rfl dX0_round_48 ?_
        refine Aw.iconst (v := 1) ic_1 rfl dX0_round_49 ?_
        refine Aw.iload 6 rfl rfl dX0_round_50 ?_
        refine Aw.ishl rfl dX0_round_52 ?_
        refine Aw.ior rfl dX0_round_53 ?_
        refine Aw.bi (fun b1 => ?_)
        refine Aw.istore_n (L' := [(2, .int b1), (0, .ref (Gb G + r0)), (1, .int x1), (3, .int x3), (4, .int x4), (5, .int x5), (6, .int x6)]) (Nat.le_of_ble_eq_true rfl) rfl rfl dX0_round_54 ?_
        refine Aw.iload 5 rfl rfl dX0_round_55 ?_
        refine Aw.aload_n 1 rfl rfl dX0_round_57 ?_
        refine Aw.getR fl_X0_15 (Nat.le_of_ble_eq_true rfl) rfl hr0 rfl dX0_round_58 ?_
        refine Aw.iload 6 rfl rfl dX0_round_61 ?_
        refine Aw.iald (n := 12) (ft_0_1 hr0).1 (ft_0_1 hr0).2 rfl dX0_round_63 (fun hb2 => ?_)
        refine Aw.iadd rfl dX0_round_64 ?_
        refine Aw.bi (fun b3 => ?_)
        refine Aw.istore (L' := [(5, .int b3), (2, .int b1), (0, .ref (Gb G + r0)), (1, .int x1), (3, .int x3), (4, .int x4), (6, .int x6)]) (Nat.le_of_ble_eq_true rfl) rfl rfl dX0_round_65 ?_
        refine Aw.aload_n 2 rfl rfl dX0_round_67 ?_
        refine Aw.getR fl_X0_9 (Nat.le_of_ble_eq_true rfl) rfl hr0 rfl dX0_round_68 ?_
        refine Aw.iload 6 rfl rfl dX0_round_71 ?_
        refine Aw.iald (n := 12) (ft_0_0 hr0).1 (ft_0_0 hr0).2 rfl dX0_round_73 (fun hb4 => ?_)
        refine Aw.bi (fun b5 => ?_)
        refine Aw.istore (L' := [(6, .int b5), (5, .int b3), (2, .int b1), (0, .ref (Gb G + r0)), (1, .int x1), (3, .int x3), (4, .int x4)]) (Nat.le_of_ble_eq_true rfl) rfl rfl dX0_round_74 ?_
        refine Aw.iinc (v := x4 + 1) (L' := [(4, .int (x4 + 1)), (6, .int b5), (5, .int b3), (2, .int b1), (0, .ref (Gb G + r0)), (1, .int x1), (3, .int x3)]) 6 rfl (ii_1 _) (Nat.le_of_ble_eq_true rfl) rfl rfl dX0_round_76 ?_
        refine Aw.goto (q := 32) (by decide) dX0_round_79 ?_
        refine Aw.sub (L' := [(0, .ref (Gb G + r0)), (1, .int x1), (2, .int b1), (3, .int x3), (4, .int (x4 + 1)), (5, .int b3), (6, .int b5)]) [4, 5, 3, 6, 0, 2, 1] rfl ?_
        exact ih _ _ _ _ _ _ _ _
      · refine Aw.sub (L' := [(0, .ref (Gb G + r0)), (1, .int x1), (2, .int x2), (3, .int x3), (4, .int x4), (5, .int x5)]) [0, 1, 2, 3, 4, 5] rfl ?_
        exact aw_X0_round_82 l G _ hr6 _ _ _ _ _ _ _
set_option maxRecDepth 100000 in
set_option maxHeartbeats 4000000 in
theorem aw_X0_round_6 (l : Launch) (G : Gt) : ∀ (n : Nat) (r0 : Nat) (x1 : Int32) (x2 : Int32) (x3 : Int32) (σ : Sg), Aw l G MX0_round rI 6 [(0, .ref (Gb G + r0)), (1, .int x1), (2, .int x2), (3, .int x3)] [] σ (f_X0_round_6 n r0 x1 x2 x3 σ) := by
  intro n
  induction n with
  | zero => intro r0 x1 x2 x3 σ; exact Aw.no
  | succ n ih =>
    intro r0 x1 x2 x3 σ
    rw [f_X0_round_6]
    refine Aw.gd (fun hr0 => ?_)
    refine Aw.iload_n 3 rfl rfl dX0_round_6 ?_
    refine Aw.bipush (v := 12) ib_12 rfl dX0_round_7 ?_
    refine Aw.icmp_ge (q := 12) (t := 101) rfl (by decide) dX0_round_9 (fun hc => ?_) (fun hc => ?_)
    · refine Aw.iload_n 1 rfl rfl dX0_round_101 ?_
      exact Aw.iret rfl dX0_round_102
    · refine Aw.iload_n 2 rfl rfl dX0_round_12 ?_
      refine Aw.iload_n 3 rfl rfl dX0_round_13 ?_
      refine Aw.ishr rfl dX0_round_14 ?_
      refine Aw.iconst (v := 1) ic_1 rfl dX0_round_15 ?_
      refine Aw.iand rfl dX0_round_16 ?_
      refine Aw.if_eq (q := 20) (t := 23) rfl (by decide) dX0_round_17 (fun hc => ?_) (fun hc => ?_)
      · refine Aw.iconst (v := 0) ic_0 rfl dX0_round_23 ?_
        refine Aw.istore (L' := [(4, .int 0), (0, .ref (Gb G + r0)), (1, .int x1), (2, .int x2), (3, .int x3)]) (Nat.le_of_ble_eq_true rfl) rfl rfl dX0_round_24 ?_
        refine Aw.iconst (v := 0) ic_0 rfl dX0_round_26 ?_
        refine Aw.istore (L' := [(5, .int 0), (4, .int 0), (0, .ref (Gb G + r0)), (1, .int x1), (2, .int x2), (3, .int x3)]) (Nat.le_of_ble_eq_true rfl) rfl rfl dX0_round_27 ?_
        refine Aw.iload_n 5 rfl rfl dX0_round_29 ?_
        refine Aw.istore (L' := [(6, .int x3), (5, .int 0), (4, .int 0), (0, .ref (Gb G + r0)), (1, .int x1), (2, .int x2), (3, .int x3)]) (Nat.le_of_ble_eq_true rfl) rfl rfl dX0_round_30 ?_
        refine Aw.sub (L' := [(0, .ref (Gb G + r0)), (1, .int x1), (2, .int x2), (3, .int x3), (4, .int 0), (5, .int 0), (6, .int x3)]) [3, 4, 5, 6, 2, 1, 0] rfl ?_
        exact aw_X0_round_32 l G _ ih FU _ _ _ _ _ _ _ _
      · refine Aw.goto (q := 95) (by decide) dX0_round_20 ?_
        refine Aw.sub (L' := [(0, .ref (Gb G + r0)), (1, .int x1), (2, .int x2), (3, .int x3)]) [0, 1, 2, 3] rfl ?_
        exact aw_X0_round_95 l G _ ih _ _ _ _ _
set_option maxRecDepth 100000 in
set_option maxHeartbeats 4000000 in
theorem ct_X0_round (l : Launch) (G : Gt) (r0 : Nat) (σ : Sg) : Ct l G yX0_round MX0_round rI [.ref (Gb G + r0)] σ (f_X0_round r0 σ) := by
  refine Ct.of (by decide +kernel) rfl (Nat.le_of_ble_eq_true rfl) ?_
  show Aw l G MX0_round rI 0 [(0, .ref (Gb G + r0))] [] σ _
  unfold f_X0_round
  refine Aw.gd (fun hr0 => ?_)
  refine Aw.iconst (v := 1) ic_1 rfl dX0_round_0 ?_
  refine Aw.istore_n (L' := [(1, .int 1), (0, .ref (Gb G + r0))]) (Nat.le_of_ble_eq_true rfl) rfl rfl dX0_round_1 ?_
  refine Aw.iconst (v := 0) ic_0 rfl dX0_round_2 ?_
  refine Aw.istore_n (L' := [(2, .int 0), (1, .int 1), (0, .ref (Gb G + r0))]) (Nat.le_of_ble_eq_true rfl) rfl rfl dX0_round_3 ?_
  refine Aw.iconst (v := 0) ic_0 rfl dX0_round_4 ?_
  refine Aw.istore_n (L' := [(3, .int 0), (2, .int 0), (1, .int 1), (0, .ref (Gb G + r0))]) (Nat.le_of_ble_eq_true rfl) rfl rfl dX0_round_5 ?_
  refine Aw.sub (L' := [(0, .ref (Gb G + r0)), (1, .int 1), (2, .int 0), (3, .int 0)]) [3, 2, 1, 0] rfl ?_
  exact aw_X0_round_6 l G FU _ _ _ _ _
abbrev MJ7_fill_53178 : Mt := (RJ7, cJ7_fill_53178, 4, none, 1)
def f_J7_fill_53178_5  : Nat → Nat → Int32 → Int32 → Int32 → Sg → Option (Unit × Sg)
  | 0, _, _, _, _, _ => none
  | n + 1, r0, x1, x2, x3, σ => if kd r0 = 7 then (if x3 ≤ x2 then (some ((), σ)) else (if inb x2 (ln r0) then (bn (up σ r0 (ix x2) x1) (fun τ2 => f_J7_fill_53178_5 n r0 x1 (x2 + 1) x3 τ2)) else none)) else none
def f_J7_fill_53178 (r0 : Nat) (x1 : Int32) (σ : Sg) : Option (Unit × Sg) := if kd r0 = 7 then (bn (nI (ln r0)) (fun b1 => f_J7_fill_53178_5 FU r0 x1 0 b1 σ)) else none
set_option maxRecDepth 100000 in
set_option maxHeartbeats 4000000 in
theorem aw_J7_fill_53178_5 (l : Launch) (G : Gt) : ∀ (n : Nat) (r0 : Nat) (x1 : Int32) (x2 : Int32) (x3 : Int32) (σ : Sg), Aw l G MJ7_fill_53178 rV 5 [(0, .ref (Gb G + r0)), (1, .int x1), (2, .int x2), (3, .int x3)] [] σ (f_J7_fill_53178_5 n r0 x1 x2 x3 σ) := by
  intro n
  induction n with
  | zero => intro r0 x1 x2 x3 σ; exact Aw.no
  | succ n ih =>
    intro r0 x1 x2 x3 σ
    rw [f_J7_fill_53178_5]
    refine Aw.gd (fun hr0 => ?_)
    refine Aw.iload_n 2 rfl rfl dJ7_fill_53178_5 ?_
    refine Aw.iload_n 3 rfl rfl dJ7_fill_53178_6 ?_
    refine Aw.icmp_ge (q := 10) (t := 20) rfl (by decide) dJ7_fill_53178_7 (fun hc => ?_) (fun hc => ?_)
    · exact Aw.vret rfl dJ7_fill_53178_20
    · refine Aw.aload_n 0 rfl rfl dJ7_fill_53178_10 ?_
      refine Aw.iload_n 2 rfl rfl dJ7_fill_53178_11 ?_
      refine Aw.iload_n 1 rfl rfl dJ7_fill_53178_12 ?_
      refine Aw.iast (n := ln r0) hr0 rfl rfl dJ7_fill_53178_13 (fun hb1 => ?_)
      refine Aw.bs (fun τ2 => ?_)
      refine Aw.iinc (v := x2 + 1) (L' := [(2, .int (x2 + 1)), (0, .ref (Gb G + r0)), (1, .int x1), (3, .int x3)]) 2 rfl (ii_1 _) (Nat.le_of_ble_eq_true rfl) rfl rfl dJ7_fill_53178_14 ?_
      refine Aw.goto (q := 5) (by decide) dJ7_fill_53178_17 ?_
      refine Aw.sub (L' := [(0, .ref (Gb G + r0)), (1, .int x1), (2, .int (x2 + 1)), (3, .int x3)]) [1, 2, 0, 3] rfl ?_
      exact ih _ _ _ _ _
set_option maxRecDepth 100000 in
set_option maxHeartbeats 4000000 in
theorem ct_J7_fill_53178 (l : Launch) (G : Gt) (r0 : Nat) (x1 : Int32) (σ : Sg) : Ct l G yJ7_fill_53178 MJ7_fill_53178 rV [.ref (Gb G + r0), .int x1] σ (f_J7_fill_53178 r0 x1 σ) := by
  refine Ct.of (by decide +kernel) rfl (Nat.le_of_ble_eq_true rfl) ?_
  show Aw l G MJ7_fill_53178 rV 0 [(0, .ref (Gb G + r0)), (1, .int x1)] [] σ _
  unfold f_J7_fill_53178
  refine Aw.gd (fun hr0 => ?_)
  refine Aw.iconst (v := 0) ic_0 rfl dJ7_fill_53178_0 ?_
  refine Aw.istore_n (L' := [(2, .int 0), (0, .ref (Gb G + r0)), (1, .int x1)]) (Nat.le_of_ble_eq_true rfl) rfl rfl dJ7_fill_53178_1 ?_
  refine Aw.aload_n 1 rfl rfl dJ7_fill_53178_2 ?_
  refine Aw.alen hr0 rfl dJ7_fill_53178_3 ?_
  refine Aw.bi (fun b1 => ?_)
  refine Aw.istore_n (L' := [(3, .int b1), (2, .int 0), (0, .ref (Gb G + r0)), (1, .int x1)]) (Nat.le_of_ble_eq_true rfl) rfl rfl dJ7_fill_53178_4 ?_
  refine Aw.sub (L' := [(0, .ref (Gb G + r0)), (1, .int x1), (2, .int 0), (3, .int b1)]) [2, 3, 1, 0] rfl ?_
  exact aw_J7_fill_53178_5 l G FU _ _ _ _ _
end
