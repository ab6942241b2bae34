section
-- ===== PART A: goes FIRST, ahead of the names: the tables' words, and 'selects' of the private methods out of them =====
/-- a private method of a class that the tables say can be made, by its rows of tables_1 -/
def lw_okq (q : MethodName × Nat) : Prop := (q.1.cls ≠ "java/lang/invoke/MethodHandle" ∧ q.1.cls ≠ "java/lang/invoke/VarHandle") ∧ Cond.instantiable q.1.cls q.2 ∈ tables_1 ∧ Cond.privateMethod q.1 ∈ tables_1 ∧ Cond.instanceMethod q.1 ∈ tables_1
theorem lw_p0 : lw_okq (⟨"StampsCancel", "learnIfLand", "(I)V"⟩, 12) := ⟨⟨by decide +kernel, by decide +kernel⟩, List.mem_of_getElem? (i := 18) (by decide +kernel), List.mem_of_getElem? (i := 308) (by decide +kernel), List.mem_of_getElem? (i := 309) (by decide +kernel)⟩
theorem lw_p1 : lw_okq (⟨"StampsCancel$Land", "forget", "()V"⟩, 6) := ⟨⟨by decide +kernel, by decide +kernel⟩, List.mem_of_getElem? (i := 26) (by decide +kernel), List.mem_of_getElem? (i := 316) (by decide +kernel), List.mem_of_getElem? (i := 317) (by decide +kernel)⟩
theorem lw_p2 : lw_okq (⟨"StampsCancel$Land", "faultOf", "(LStampsCancel$Text;)I"⟩, 6) := ⟨⟨by decide +kernel, by decide +kernel⟩, List.mem_of_getElem? (i := 26) (by decide +kernel), List.mem_of_getElem? (i := 324) (by decide +kernel), List.mem_of_getElem? (i := 325) (by decide +kernel)⟩
theorem lw_p3 : lw_okq (⟨"StampsCancel$Land", "takeRoom", "(LStampsCancel$Text;I)I"⟩, 6) := ⟨⟨by decide +kernel, by decide +kernel⟩, List.mem_of_getElem? (i := 26) (by decide +kernel), List.mem_of_getElem? (i := 332) (by decide +kernel), List.mem_of_getElem? (i := 333) (by decide +kernel)⟩
theorem lw_p4 : lw_okq (⟨"StampsCancel$Land", "takeGate", "(LStampsCancel$Text;I)I"⟩, 6) := ⟨⟨by decide +kernel, by decide +kernel⟩, List.mem_of_getElem? (i := 26) (by decide +kernel), List.mem_of_getElem? (i := 339) (by decide +kernel), List.mem_of_getElem? (i := 340) (by decide +kernel)⟩
theorem lw_p5 : lw_okq (⟨"StampsCancel", "wayFault", "(LStampsCancel$Text;)I"⟩, 12) := ⟨⟨by decide +kernel, by decide +kernel⟩, List.mem_of_getElem? (i := 18) (by decide +kernel), List.mem_of_getElem? (i := 363) (by decide +kernel), List.mem_of_getElem? (i := 364) (by decide +kernel)⟩
theorem lw_p6 : lw_okq (⟨"StampsCancel", "stampWay", "(ILStampsCancel$Paper;)V"⟩, 12) := ⟨⟨by decide +kernel, by decide +kernel⟩, List.mem_of_getElem? (i := 18) (by decide +kernel), List.mem_of_getElem? (i := 419) (by decide +kernel), List.mem_of_getElem? (i := 420) (by decide +kernel)⟩
theorem lw_p7 : lw_okq (⟨"StampsCancel", "judgeWay", "(III)V"⟩, 12) := ⟨⟨by decide +kernel, by decide +kernel⟩, List.mem_of_getElem? (i := 18) (by decide +kernel), List.mem_of_getElem? (i := 456) (by decide +kernel), List.mem_of_getElem? (i := 457) (by decide +kernel)⟩
theorem lw_p8 : lw_okq (⟨"StampsCancel$Judge", "mayPass", "(I)Z"⟩, 6) := ⟨⟨by decide +kernel, by decide +kernel⟩, List.mem_of_getElem? (i := 67) (by decide +kernel), List.mem_of_getElem? (i := 476) (by decide +kernel), List.mem_of_getElem? (i := 477) (by decide +kernel)⟩
theorem lw_p9 : lw_okq (⟨"StampsCancel$Judge", "pass", "(I)V"⟩, 6) := ⟨⟨by decide +kernel, by decide +kernel⟩, List.mem_of_getElem? (i := 67) (by decide +kernel), List.mem_of_getElem? (i := 485) (by decide +kernel), List.mem_of_getElem? (i := 486) (by decide +kernel)⟩
theorem lw_p10 : lw_okq (⟨"StampsCancel", "planRoute", "(IIII)I"⟩, 12) := ⟨⟨by decide +kernel, by decide +kernel⟩, List.mem_of_getElem? (i := 18) (by decide +kernel), List.mem_of_getElem? (i := 520) (by decide +kernel), List.mem_of_getElem? (i := 521) (by decide +kernel)⟩
theorem lw_p11 : lw_okq (⟨"StampsCancel$Distances", "layOut", "(LStampsCancel$Land;I)V"⟩, 3) := ⟨⟨by decide +kernel, by decide +kernel⟩, List.mem_of_getElem? (i := 100) (by decide +kernel), List.mem_of_getElem? (i := 537) (by decide +kernel), List.mem_of_getElem? (i := 538) (by decide +kernel)⟩
theorem lw_p12 : lw_okq (⟨"StampsCancel$Distances", "link", "(II)V"⟩, 3) := ⟨⟨by decide +kernel, by decide +kernel⟩, List.mem_of_getElem? (i := 100) (by decide +kernel), List.mem_of_getElem? (i := 548) (by decide +kernel), List.mem_of_getElem? (i := 549) (by decide +kernel)⟩
theorem lw_p13 : lw_okq (⟨"StampsCancel$Distances", "spread", "(I)V"⟩, 3) := ⟨⟨by decide +kernel, by decide +kernel⟩, List.mem_of_getElem? (i := 100) (by decide +kernel), List.mem_of_getElem? (i := 552) (by decide +kernel), List.mem_of_getElem? (i := 553) (by decide +kernel)⟩
theorem lw_p14 : lw_okq (⟨"StampsCancel$Route", "need", "(I)V"⟩, 6) := ⟨⟨by decide +kernel, by decide +kernel⟩, List.mem_of_getElem? (i := 94) (by decide +kernel), List.mem_of_getElem? (i := 559) (by decide +kernel), List.mem_of_getElem? (i := 560) (by decide +kernel)⟩
theorem lw_p15 : lw_okq (⟨"StampsCancel$Route", "origin", "(II)I"⟩, 6) := ⟨⟨by decide +kernel, by decide +kernel⟩, List.mem_of_getElem? (i := 94) (by decide +kernel), List.mem_of_getElem? (i := 567) (by decide +kernel), List.mem_of_getElem? (i := 568) (by decide +kernel)⟩
def lw_privs_1 : List (MethodName × Nat) := [(⟨"StampsCancel", "learnIfLand", "(I)V"⟩, 12), (⟨"StampsCancel$Land", "forget", "()V"⟩, 6), (⟨"StampsCancel$Land", "faultOf", "(LStampsCancel$Text;)I"⟩, 6), (⟨"StampsCancel$Land", "takeRoom", "(LStampsCancel$Text;I)I"⟩, 6), (⟨"StampsCancel$Land", "takeGate", "(LStampsCancel$Text;I)I"⟩, 6), (⟨"StampsCancel", "wayFault", "(LStampsCancel$Text;)I"⟩, 12), (⟨"StampsCancel", "stampWay", "(ILStampsCancel$Paper;)V"⟩, 12), (⟨"StampsCancel", "judgeWay", "(III)V"⟩, 12), (⟨"StampsCancel$Judge", "mayPass", "(I)Z"⟩, 6), (⟨"StampsCancel$Judge", "pass", "(I)V"⟩, 6), (⟨"StampsCancel", "planRoute", "(IIII)I"⟩, 12), (⟨"StampsCancel$Distances", "layOut", "(LStampsCancel$Land;I)V"⟩, 3), (⟨"StampsCancel$Distances", "link", "(II)V"⟩, 3), (⟨"StampsCancel$Distances", "spread", "(I)V"⟩, 3), (⟨"StampsCancel$Route", "need", "(I)V"⟩, 6), (⟨"StampsCancel$Route", "origin", "(II)I"⟩, 6)]
theorem lw_r1 : ∀ q ∈ lw_privs_1, lw_okq q := List.forall_mem_cons.mpr ⟨lw_p0, List.forall_mem_cons.mpr ⟨lw_p1, List.forall_mem_cons.mpr ⟨lw_p2, List.forall_mem_cons.mpr ⟨lw_p3, List.forall_mem_cons.mpr ⟨lw_p4, List.forall_mem_cons.mpr ⟨lw_p5, List.forall_mem_cons.mpr ⟨lw_p6, List.forall_mem_cons.mpr ⟨lw_p7, List.forall_mem_cons.mpr ⟨lw_p8, List.forall_mem_cons.mpr ⟨lw_p9, List.forall_mem_cons.mpr ⟨lw_p10, List.forall_mem_cons.mpr ⟨lw_p11, List.forall_mem_cons.mpr ⟨lw_p12, List.forall_mem_cons.mpr ⟨lw_p13, List.forall_mem_cons.mpr ⟨lw_p14, List.forall_mem_cons.mpr ⟨lw_p15, fun _ h => absurd h List.not_mem_nil⟩⟩⟩⟩⟩⟩⟩⟩⟩⟩⟩⟩⟩⟩⟩⟩
theorem lw_p16 : lw_okq (⟨"StampsCancel$Route", "needAt", "(I)I"⟩, 6) := ⟨⟨by decide +kernel, by decide +kernel⟩, List.mem_of_getElem? (i := 94) (by decide +kernel), List.mem_of_getElem? (i := 571) (by decide +kernel), List.mem_of_getElem? (i := 572) (by decide +kernel)⟩
theorem lw_p17 : lw_okq (⟨"StampsCancel$Route", "goal", "(II)I"⟩, 6) := ⟨⟨by decide +kernel, by decide +kernel⟩, List.mem_of_getElem? (i := 94) (by decide +kernel), List.mem_of_getElem? (i := 576) (by decide +kernel), List.mem_of_getElem? (i := 577) (by decide +kernel)⟩
theorem lw_p18 : lw_okq (⟨"StampsCancel$Route", "laneWays", "(II)J"⟩, 6) := ⟨⟨by decide +kernel, by decide +kernel⟩, List.mem_of_getElem? (i := 94) (by decide +kernel), List.mem_of_getElem? (i := 591) (by decide +kernel), List.mem_of_getElem? (i := 592) (by decide +kernel)⟩
theorem lw_p19 : lw_okq (⟨"StampsCancel$Route", "stepNearer", "(II)V"⟩, 6) := ⟨⟨by decide +kernel, by decide +kernel⟩, List.mem_of_getElem? (i := 94) (by decide +kernel), List.mem_of_getElem? (i := 599) (by decide +kernel), List.mem_of_getElem? (i := 600) (by decide +kernel)⟩
theorem lw_p20 : lw_okq (⟨"StampsCancel$Route", "isLane", "(I)Z"⟩, 6) := ⟨⟨by decide +kernel, by decide +kernel⟩, List.mem_of_getElem? (i := 94) (by decide +kernel), List.mem_of_getElem? (i := 607) (by decide +kernel), List.mem_of_getElem? (i := 608) (by decide +kernel)⟩
theorem lw_p21 : lw_okq (⟨"StampsCancel$Route", "leastLaneLetter", "(III)I"⟩, 6) := ⟨⟨by decide +kernel, by decide +kernel⟩, List.mem_of_getElem? (i := 94) (by decide +kernel), List.mem_of_getElem? (i := 623) (by decide +kernel), List.mem_of_getElem? (i := 624) (by decide +kernel)⟩
theorem lw_p22 : lw_okq (⟨"StampsCancel$Route", "leastNearer", "(II)I"⟩, 6) := ⟨⟨by decide +kernel, by decide +kernel⟩, List.mem_of_getElem? (i := 94) (by decide +kernel), List.mem_of_getElem? (i := 627) (by decide +kernel), List.mem_of_getElem? (i := 628) (by decide +kernel)⟩
theorem lw_p23 : lw_okq (⟨"StampsCancel$Errands", "setOut", "(I)V"⟩, 4) := ⟨⟨by decide +kernel, by decide +kernel⟩, List.mem_of_getElem? (i := 138) (by decide +kernel), List.mem_of_getElem? (i := 639) (by decide +kernel), List.mem_of_getElem? (i := 640) (by decide +kernel)⟩
theorem lw_p24 : lw_okq (⟨"StampsCancel$Errands", "reached", "()I"⟩, 4) := ⟨⟨by decide +kernel, by decide +kernel⟩, List.mem_of_getElem? (i := 138) (by decide +kernel), List.mem_of_getElem? (i := 647) (by decide +kernel), List.mem_of_getElem? (i := 648) (by decide +kernel)⟩
theorem lw_p25 : lw_okq (⟨"StampsCancel$Errands", "allowOneMore", "()Z"⟩, 4) := ⟨⟨by decide +kernel, by decide +kernel⟩, List.mem_of_getElem? (i := 138) (by decide +kernel), List.mem_of_getElem? (i := 651) (by decide +kernel), List.mem_of_getElem? (i := 652) (by decide +kernel)⟩
theorem lw_p26 : lw_okq (⟨"StampsCancel$Errands", "comeNearer", "(II)Z"⟩, 4) := ⟨⟨by decide +kernel, by decide +kernel⟩, List.mem_of_getElem? (i := 138) (by decide +kernel), List.mem_of_getElem? (i := 661) (by decide +kernel), List.mem_of_getElem? (i := 662) (by decide +kernel)⟩
theorem lw_p27 : lw_okq (⟨"StampsCancel$Route", "isChained", "()Z"⟩, 6) := ⟨⟨by decide +kernel, by decide +kernel⟩, List.mem_of_getElem? (i := 94) (by decide +kernel), List.mem_of_getElem? (i := 686) (by decide +kernel), List.mem_of_getElem? (i := 687) (by decide +kernel)⟩
theorem lw_p28 : lw_okq (⟨"StampsCancel$Walks", "joinTowns", "()V"⟩, 7) := ⟨⟨by decide +kernel, by decide +kernel⟩, List.mem_of_getElem? (i := 159) (by decide +kernel), List.mem_of_getElem? (i := 710) (by decide +kernel), List.mem_of_getElem? (i := 711) (by decide +kernel)⟩
theorem lw_p29 : lw_okq (⟨"StampsCancel$Walks", "countRounds", "(I)V"⟩, 7) := ⟨⟨by decide +kernel, by decide +kernel⟩, List.mem_of_getElem? (i := 159) (by decide +kernel), List.mem_of_getElem? (i := 717) (by decide +kernel), List.mem_of_getElem? (i := 718) (by decide +kernel)⟩
theorem lw_p30 : lw_okq (⟨"StampsCancel$Walks", "lengthen", "([JIII)V"⟩, 7) := ⟨⟨by decide +kernel, by decide +kernel⟩, List.mem_of_getElem? (i := 159) (by decide +kernel), List.mem_of_getElem? (i := 726) (by decide +kernel), List.mem_of_getElem? (i := 727) (by decide +kernel)⟩
theorem lw_p31 : lw_okq (⟨"StampsCancel$Walks", "goOnByLanes", "([JI)V"⟩, 7) := ⟨⟨by decide +kernel, by decide +kernel⟩, List.mem_of_getElem? (i := 159) (by decide +kernel), List.mem_of_getElem? (i := 730) (by decide +kernel), List.mem_of_getElem? (i := 731) (by decide +kernel)⟩
def lw_privs_2 : List (MethodName × Nat) := [(⟨"StampsCancel$Route", "needAt", "(I)I"⟩, 6), (⟨"StampsCancel$Route", "goal", "(II)I"⟩, 6), (⟨"StampsCancel$Route", "laneWays", "(II)J"⟩, 6), (⟨"StampsCancel$Route", "stepNearer", "(II)V"⟩, 6), (⟨"StampsCancel$Route", "isLane", "(I)Z"⟩, 6), (⟨"StampsCancel$Route", "leastLaneLetter", "(III)I"⟩, 6), (⟨"StampsCancel$Route", "leastNearer", "(II)I"⟩, 6), (⟨"StampsCancel$Errands", "setOut", "(I)V"⟩, 4), (⟨"StampsCancel$Errands", "reached", "()I"⟩, 4), (⟨"StampsCancel$Errands", "allowOneMore", "()Z"⟩, 4), (⟨"StampsCancel$Errands", "comeNearer", "(II)Z"⟩, 4), (⟨"StampsCancel$Route", "isChained", "()Z"⟩, 6), (⟨"StampsCancel$Walks", "joinTowns", "()V"⟩, 7), (⟨"StampsCancel$Walks", "countRounds", "(I)V"⟩, 7), (⟨"StampsCancel$Walks", "lengthen", "([JIII)V"⟩, 7), (⟨"StampsCancel$Walks", "goOnByLanes", "([JI)V"⟩, 7)]
theorem lw_r2 : ∀ q ∈ lw_privs_2, lw_okq q := List.forall_mem_cons.mpr ⟨lw_p16, List.forall_mem_cons.mpr ⟨lw_p17, List.forall_mem_cons.mpr ⟨lw_p18, List.forall_mem_cons.mpr ⟨lw_p19, List.forall_mem_cons.mpr ⟨lw_p20, List.forall_mem_cons.mpr ⟨lw_p21, List.forall_mem_cons.mpr ⟨lw_p22, List.forall_mem_cons.mpr ⟨lw_p23, List.forall_mem_cons.mpr ⟨lw_p24, List.forall_mem_cons.mpr ⟨lw_p25, List.forall_mem_cons.mpr ⟨lw_p26, List.forall_mem_cons.mpr ⟨lw_p27, List.forall_mem_cons.mpr ⟨lw_p28, List.forall_mem_cons.mpr ⟨lw_p29, List.forall_mem_cons.mpr ⟨lw_p30, List.forall_mem_cons.mpr ⟨lw_p31, fun _ h => absurd h List.not_mem_nil⟩⟩⟩⟩⟩⟩⟩⟩⟩⟩⟩⟩⟩⟩⟩⟩
theorem lw_p32 : lw_okq (⟨"StampsCancel$Walks", "behindRounds", "([JIII)J"⟩, 7) := ⟨⟨by decide +kernel, by decide +kernel⟩, List.mem_of_getElem? (i := 159) (by decide +kernel), List.mem_of_getElem? (i := 736) (by decide +kernel), List.mem_of_getElem? (i := 737) (by decide +kernel)⟩
theorem lw_p33 : lw_okq (⟨"StampsCancel$Walks", "countFrom", "(III)V"⟩, 7) := ⟨⟨by decide +kernel, by decide +kernel⟩, List.mem_of_getElem? (i := 159) (by decide +kernel), List.mem_of_getElem? (i := 740) (by decide +kernel), List.mem_of_getElem? (i := 741) (by decide +kernel)⟩
theorem lw_p34 : lw_okq (⟨"StampsCancel$Walks", "stampForGood", "(II)V"⟩, 7) := ⟨⟨by decide +kernel, by decide +kernel⟩, List.mem_of_getElem? (i := 159) (by decide +kernel), List.mem_of_getElem? (i := 745) (by decide +kernel), List.mem_of_getElem? (i := 746) (by decide +kernel)⟩
theorem lw_p35 : lw_okq (⟨"StampsCancel", "listIfRoom", "(LStampsCancel$Paper;)V"⟩, 12) := ⟨⟨by decide +kernel, by decide +kernel⟩, List.mem_of_getElem? (i := 18) (by decide +kernel), List.mem_of_getElem? (i := 791) (by decide +kernel), List.mem_of_getElem? (i := 792) (by decide +kernel)⟩
theorem lw_p36 : lw_okq (⟨"StampsCancel$Listing", "unlikeAt", "(LStampsCancel$Paper;I)I"⟩, 5) := ⟨⟨by decide +kernel, by decide +kernel⟩, List.mem_of_getElem? (i := 191) (by decide +kernel), List.mem_of_getElem? (i := 827) (by decide +kernel), List.mem_of_getElem? (i := 828) (by decide +kernel)⟩
theorem lw_p37 : lw_okq (⟨"StampsCancel$Listing", "isLetBy", "(II)Z"⟩, 5) := ⟨⟨by decide +kernel, by decide +kernel⟩, List.mem_of_getElem? (i := 191) (by decide +kernel), List.mem_of_getElem? (i := 840) (by decide +kernel), List.mem_of_getElem? (i := 841) (by decide +kernel)⟩
theorem lw_p38 : lw_okq (⟨"StampsCancel$Listing", "unlikeOf", "(II)I"⟩, 5) := ⟨⟨by decide +kernel, by decide +kernel⟩, List.mem_of_getElem? (i := 191) (by decide +kernel), List.mem_of_getElem? (i := 844) (by decide +kernel), List.mem_of_getElem? (i := 845) (by decide +kernel)⟩
theorem lw_p39 : lw_okq (⟨"StampsCancel$Listing", "gatherUnlike", "()I"⟩, 5) := ⟨⟨by decide +kernel, by decide +kernel⟩, List.mem_of_getElem? (i := 191) (by decide +kernel), List.mem_of_getElem? (i := 856) (by decide +kernel), List.mem_of_getElem? (i := 857) (by decide +kernel)⟩
theorem lw_p40 : lw_okq (⟨"StampsCancel$Listing", "partsAll", "(II)Z"⟩, 5) := ⟨⟨by decide +kernel, by decide +kernel⟩, List.mem_of_getElem? (i := 191) (by decide +kernel), List.mem_of_getElem? (i := 866) (by decide +kernel), List.mem_of_getElem? (i := 867) (by decide +kernel)⟩
theorem lw_p41 : lw_okq (⟨"StampsCancel$Sheets", "hasRun", "(III)Z"⟩, 4) := ⟨⟨by decide +kernel, by decide +kernel⟩, List.mem_of_getElem? (i := 215) (by decide +kernel), List.mem_of_getElem? (i := 953) (by decide +kernel), List.mem_of_getElem? (i := 954) (by decide +kernel)⟩
theorem lw_p42 : lw_okq (⟨"StampsCancel", "digestGate", "(JI)J"⟩, 12) := ⟨⟨by decide +kernel, by decide +kernel⟩, List.mem_of_getElem? (i := 18) (by decide +kernel), List.mem_of_getElem? (i := 994) (by decide +kernel), List.mem_of_getElem? (i := 995) (by decide +kernel)⟩
theorem lw_p43 : lw_okq (⟨"StampsCancel", "digestWay", "(JI)J"⟩, 12) := ⟨⟨by decide +kernel, by decide +kernel⟩, List.mem_of_getElem? (i := 18) (by decide +kernel), List.mem_of_getElem? (i := 1000) (by decide +kernel), List.mem_of_getElem? (i := 1001) (by decide +kernel)⟩
theorem lw_p44 : lw_okq (⟨"StampsCancel", "digestTown", "(JI)J"⟩, 12) := ⟨⟨by decide +kernel, by decide +kernel⟩, List.mem_of_getElem? (i := 18) (by decide +kernel), List.mem_of_getElem? (i := 1010) (by decide +kernel), List.mem_of_getElem? (i := 1011) (by decide +kernel)⟩
theorem lw_p45 : lw_okq (⟨"StampsCancelModel", "met", "(I)I"⟩, 35) := ⟨⟨by decide +kernel, by decide +kernel⟩, List.mem_of_getElem? (i := 1019) (by decide +kernel), List.mem_of_getElem? (i := 1144) (by decide +kernel), List.mem_of_getElem? (i := 1145) (by decide +kernel)⟩
theorem lw_p46 : lw_okq (⟨"StampsCancelModel", "lacks", "(III)I"⟩, 35) := ⟨⟨by decide +kernel, by decide +kernel⟩, List.mem_of_getElem? (i := 1019) (by decide +kernel), List.mem_of_getElem? (i := 1156) (by decide +kernel), List.mem_of_getElem? (i := 1157) (by decide +kernel)⟩
theorem lw_p47 : lw_okq (⟨"StampsCancelModel", "faultOf", "(I)I"⟩, 35) := ⟨⟨by decide +kernel, by decide +kernel⟩, List.mem_of_getElem? (i := 1019) (by decide +kernel), List.mem_of_getElem? (i := 1191) (by decide +kernel), List.mem_of_getElem? (i := 1192) (by decide +kernel)⟩
def lw_privs_3 : List (MethodName × Nat) := [(⟨"StampsCancel$Walks", "behindRounds", "([JIII)J"⟩, 7), (⟨"StampsCancel$Walks", "countFrom", "(III)V"⟩, 7), (⟨"StampsCancel$Walks", "stampForGood", "(II)V"⟩, 7), (⟨"StampsCancel", "listIfRoom", "(LStampsCancel$Paper;)V"⟩, 12), (⟨"StampsCancel$Listing", "unlikeAt", "(LStampsCancel$Paper;I)I"⟩, 5), (⟨"StampsCancel$Listing", "isLetBy", "(II)Z"⟩, 5), (⟨"StampsCancel$Listing", "unlikeOf", "(II)I"⟩, 5), (⟨"StampsCancel$Listing", "gatherUnlike", "()I"⟩, 5), (⟨"StampsCancel$Listing", "partsAll", "(II)Z"⟩, 5), (⟨"StampsCancel$Sheets", "hasRun", "(III)Z"⟩, 4), (⟨"StampsCancel", "digestGate", "(JI)J"⟩, 12), (⟨"StampsCancel", "digestWay", "(JI)J"⟩, 12), (⟨"StampsCancel", "digestTown", "(JI)J"⟩, 12), (⟨"StampsCancelModel", "met", "(I)I"⟩, 35), (⟨"StampsCancelModel", "lacks", "(III)I"⟩, 35), (⟨"StampsCancelModel", "faultOf", "(I)I"⟩, 35)]
theorem lw_r3 : ∀ q ∈ lw_privs_3, lw_okq q := List.forall_mem_cons.mpr ⟨lw_p32, List.forall_mem_cons.mpr ⟨lw_p33, List.forall_mem_cons.mpr ⟨lw_p34, List.forall_mem_cons.mpr ⟨lw_p35, List.forall_mem_cons.mpr ⟨lw_p36, List.forall_mem_cons.mpr ⟨lw_p37, List.forall_mem_cons.mpr ⟨lw_p38, List.forall_mem_cons.mpr ⟨lw_p39, List.forall_mem_cons.mpr ⟨lw_p40, List.forall_mem_cons.mpr ⟨lw_p41, List.forall_mem_cons.mpr ⟨lw_p42, List.forall_mem_cons.mpr ⟨lw_p43, List.forall_mem_cons.mpr ⟨lw_p44, List.forall_mem_cons.mpr ⟨lw_p45, List.forall_mem_cons.mpr ⟨lw_p46, List.forall_mem_cons.mpr ⟨lw_p47, fun _ h => absurd h List.not_mem_nil⟩⟩⟩⟩⟩⟩⟩⟩⟩⟩⟩⟩⟩⟩⟩⟩
theorem lw_p48 : lw_okq (⟨"StampsCancelModel", "readsLand", "()I"⟩, 35) := ⟨⟨by decide +kernel, by decide +kernel⟩, List.mem_of_getElem? (i := 1019) (by decide +kernel), List.mem_of_getElem? (i := 1195) (by decide +kernel), List.mem_of_getElem? (i := 1196) (by decide +kernel)⟩
theorem lw_p49 : lw_okq (⟨"StampsCancelModel", "clears", "()V"⟩, 35) := ⟨⟨by decide +kernel, by decide +kernel⟩, List.mem_of_getElem? (i := 1019) (by decide +kernel), List.mem_of_getElem? (i := 1199) (by decide +kernel), List.mem_of_getElem? (i := 1200) (by decide +kernel)⟩
theorem lw_p50 : lw_okq (⟨"StampsCancelModel", "readsPart", "()Z"⟩, 35) := ⟨⟨by decide +kernel, by decide +kernel⟩, List.mem_of_getElem? (i := 1019) (by decide +kernel), List.mem_of_getElem? (i := 1203) (by decide +kernel), List.mem_of_getElem? (i := 1204) (by decide +kernel)⟩
theorem lw_p51 : lw_okq (⟨"StampsCancelModel", "here", "()I"⟩, 35) := ⟨⟨by decide +kernel, by decide +kernel⟩, List.mem_of_getElem? (i := 1019) (by decide +kernel), List.mem_of_getElem? (i := 1207) (by decide +kernel), List.mem_of_getElem? (i := 1208) (by decide +kernel)⟩
theorem lw_p52 : lw_okq (⟨"StampsCancelModel", "readsRoom", "()Z"⟩, 35) := ⟨⟨by decide +kernel, by decide +kernel⟩, List.mem_of_getElem? (i := 1019) (by decide +kernel), List.mem_of_getElem? (i := 1211) (by decide +kernel), List.mem_of_getElem? (i := 1212) (by decide +kernel)⟩
theorem lw_p53 : lw_okq (⟨"StampsCancelModel", "letterOf", "(I)I"⟩, 35) := ⟨⟨by decide +kernel, by decide +kernel⟩, List.mem_of_getElem? (i := 1019) (by decide +kernel), List.mem_of_getElem? (i := 1222) (by decide +kernel), List.mem_of_getElem? (i := 1223) (by decide +kernel)⟩
theorem lw_p54 : lw_okq (⟨"StampsCancelModel", "isShut", "(I)Z"⟩, 35) := ⟨⟨by decide +kernel, by decide +kernel⟩, List.mem_of_getElem? (i := 1019) (by decide +kernel), List.mem_of_getElem? (i := 1230) (by decide +kernel), List.mem_of_getElem? (i := 1231) (by decide +kernel)⟩
theorem lw_p55 : lw_okq (⟨"StampsCancelModel", "findPaper", "(II)V"⟩, 35) := ⟨⟨by decide +kernel, by decide +kernel⟩, List.mem_of_getElem? (i := 1019) (by decide +kernel), List.mem_of_getElem? (i := 1250) (by decide +kernel), List.mem_of_getElem? (i := 1251) (by decide +kernel)⟩
theorem lw_p56 : lw_okq (⟨"StampsCancelModel", "lengthOf", "(I)I"⟩, 35) := ⟨⟨by decide +kernel, by decide +kernel⟩, List.mem_of_getElem? (i := 1019) (by decide +kernel), List.mem_of_getElem? (i := 1254) (by decide +kernel), List.mem_of_getElem? (i := 1255) (by decide +kernel)⟩
theorem lw_p57 : lw_okq (⟨"StampsCancelModel", "letterAt", "(II)I"⟩, 35) := ⟨⟨by decide +kernel, by decide +kernel⟩, List.mem_of_getElem? (i := 1019) (by decide +kernel), List.mem_of_getElem? (i := 1258) (by decide +kernel), List.mem_of_getElem? (i := 1259) (by decide +kernel)⟩
theorem lw_p58 : lw_okq (⟨"StampsCancelModel", "stamp", "(II)V"⟩, 35) := ⟨⟨by decide +kernel, by decide +kernel⟩, List.mem_of_getElem? (i := 1019) (by decide +kernel), List.mem_of_getElem? (i := 1262) (by decide +kernel), List.mem_of_getElem? (i := 1263) (by decide +kernel)⟩
theorem lw_p59 : lw_okq (⟨"StampsCancelModel", "isBegun", "(I)Z"⟩, 35) := ⟨⟨by decide +kernel, by decide +kernel⟩, List.mem_of_getElem? (i := 1019) (by decide +kernel), List.mem_of_getElem? (i := 1276) (by decide +kernel), List.mem_of_getElem? (i := 1277) (by decide +kernel)⟩
theorem lw_p60 : lw_okq (⟨"StampsCancelModel", "judgedOf", "(IIII)I"⟩, 35) := ⟨⟨by decide +kernel, by decide +kernel⟩, List.mem_of_getElem? (i := 1019) (by decide +kernel), List.mem_of_getElem? (i := 1281) (by decide +kernel), List.mem_of_getElem? (i := 1282) (by decide +kernel)⟩
theorem lw_p61 : lw_okq (⟨"StampsCancelModel", "start", "(I)I"⟩, 35) := ⟨⟨by decide +kernel, by decide +kernel⟩, List.mem_of_getElem? (i := 1019) (by decide +kernel), List.mem_of_getElem? (i := 1285) (by decide +kernel), List.mem_of_getElem? (i := 1286) (by decide +kernel)⟩
theorem lw_p62 : lw_okq (⟨"StampsCancelModel", "end", "(I)I"⟩, 35) := ⟨⟨by decide +kernel, by decide +kernel⟩, List.mem_of_getElem? (i := 1019) (by decide +kernel), List.mem_of_getElem? (i := 1289) (by decide +kernel), List.mem_of_getElem? (i := 1290) (by decide +kernel)⟩
theorem lw_p63 : lw_okq (⟨"StampsCancelModel", "sameOf", "(II)I"⟩, 35) := ⟨⟨by decide +kernel, by decide +kernel⟩, List.mem_of_getElem? (i := 1019) (by decide +kernel), List.mem_of_getElem? (i := 1297) (by decide +kernel), List.mem_of_getElem? (i := 1298) (by decide +kernel)⟩
def lw_privs_4 : List (MethodName × Nat) := [(⟨"StampsCancelModel", "readsLand", "()I"⟩, 35), (⟨"StampsCancelModel", "clears", "()V"⟩, 35), (⟨"StampsCancelModel", "readsPart", "()Z"⟩, 35), (⟨"StampsCancelModel", "here", "()I"⟩, 35), (⟨"StampsCancelModel", "readsRoom", "()Z"⟩, 35), (⟨"StampsCancelModel", "letterOf", "(I)I"⟩, 35), (⟨"StampsCancelModel", "isShut", "(I)Z"⟩, 35), (⟨"StampsCancelModel", "findPaper", "(II)V"⟩, 35), (⟨"StampsCancelModel", "lengthOf", "(I)I"⟩, 35), (⟨"StampsCancelModel", "letterAt", "(II)I"⟩, 35), (⟨"StampsCancelModel", "stamp", "(II)V"⟩, 35), (⟨"StampsCancelModel", "isBegun", "(I)Z"⟩, 35), (⟨"StampsCancelModel", "judgedOf", "(IIII)I"⟩, 35), (⟨"StampsCancelModel", "start", "(I)I"⟩, 35), (⟨"StampsCancelModel", "end", "(I)I"⟩, 35), (⟨"StampsCancelModel", "sameOf", "(II)I"⟩, 35)]
theorem lw_r4 : ∀ q ∈ lw_privs_4, lw_okq q := List.forall_mem_cons.mpr ⟨lw_p48, List.forall_mem_cons.mpr ⟨lw_p49, List.forall_mem_cons.mpr ⟨lw_p50, List.forall_mem_cons.mpr ⟨lw_p51, List.forall_mem_cons.mpr ⟨lw_p52, List.forall_mem_cons.mpr ⟨lw_p53, List.forall_mem_cons.mpr ⟨lw_p54, List.forall_mem_cons.mpr ⟨lw_p55, List.forall_mem_cons.mpr ⟨lw_p56, List.forall_mem_cons.mpr ⟨lw_p57, List.forall_mem_cons.mpr ⟨lw_p58, List.forall_mem_cons.mpr ⟨lw_p59, List.forall_mem_cons.mpr ⟨lw_p60, List.forall_mem_cons.mpr ⟨lw_p61, List.forall_mem_cons.mpr ⟨lw_p62, List.forall_mem_cons.mpr ⟨lw_p63, fun _ h => absurd h List.not_mem_nil⟩⟩⟩⟩⟩⟩⟩⟩⟩⟩⟩⟩⟩⟩⟩⟩
theorem lw_p64 : lw_okq (⟨"StampsCancelModel", "alike", "()I"⟩, 35) := ⟨⟨by decide +kernel, by decide +kernel⟩, List.mem_of_getElem? (i := 1019) (by decide +kernel), List.mem_of_getElem? (i := 1301) (by decide +kernel), List.mem_of_getElem? (i := 1302) (by decide +kernel)⟩
theorem lw_p65 : lw_okq (⟨"StampsCancelModel", "isAsked", "(IIII)Z"⟩, 35) := ⟨⟨by decide +kernel, by decide +kernel⟩, List.mem_of_getElem? (i := 1019) (by decide +kernel), List.mem_of_getElem? (i := 1309) (by decide +kernel), List.mem_of_getElem? (i := 1310) (by decide +kernel)⟩
theorem lw_p66 : lw_okq (⟨"StampsCancelModel", "shortestOf", "(IIIII)J"⟩, 35) := ⟨⟨by decide +kernel, by decide +kernel⟩, List.mem_of_getElem? (i := 1019) (by decide +kernel), List.mem_of_getElem? (i := 1316) (by decide +kernel), List.mem_of_getElem? (i := 1317) (by decide +kernel)⟩
theorem lw_p67 : lw_okq (⟨"StampsCancelModel", "findShortest", "(IIII)V"⟩, 35) := ⟨⟨by decide +kernel, by decide +kernel⟩, List.mem_of_getElem? (i := 1019) (by decide +kernel), List.mem_of_getElem? (i := 1320) (by decide +kernel), List.mem_of_getElem? (i := 1321) (by decide +kernel)⟩
theorem lw_p68 : lw_okq (⟨"StampsCancelModel", "findUnseen", "()V"⟩, 35) := ⟨⟨by decide +kernel, by decide +kernel⟩, List.mem_of_getElem? (i := 1019) (by decide +kernel), List.mem_of_getElem? (i := 1324) (by decide +kernel), List.mem_of_getElem? (i := 1325) (by decide +kernel)⟩
theorem lw_p69 : lw_okq (⟨"StampsCancelModel", "isUnseen", "(I)Z"⟩, 35) := ⟨⟨by decide +kernel, by decide +kernel⟩, List.mem_of_getElem? (i := 1019) (by decide +kernel), List.mem_of_getElem? (i := 1328) (by decide +kernel), List.mem_of_getElem? (i := 1329) (by decide +kernel)⟩
theorem lw_p70 : lw_okq (⟨"StampsCancelModel", "findBetween", "()V"⟩, 35) := ⟨⟨by decide +kernel, by decide +kernel⟩, List.mem_of_getElem? (i := 1019) (by decide +kernel), List.mem_of_getElem? (i := 1332) (by decide +kernel), List.mem_of_getElem? (i := 1333) (by decide +kernel)⟩
theorem lw_p71 : lw_okq (⟨"StampsCancelModel", "goesOn", "(II)V"⟩, 35) := ⟨⟨by decide +kernel, by decide +kernel⟩, List.mem_of_getElem? (i := 1019) (by decide +kernel), List.mem_of_getElem? (i := 1336) (by decide +kernel), List.mem_of_getElem? (i := 1337) (by decide +kernel)⟩
theorem lw_p72 : lw_okq (⟨"StampsCancelModel", "leastUnseen", "(II)I"⟩, 35) := ⟨⟨by decide +kernel, by decide +kernel⟩, List.mem_of_getElem? (i := 1019) (by decide +kernel), List.mem_of_getElem? (i := 1349) (by decide +kernel), List.mem_of_getElem? (i := 1350) (by decide +kernel)⟩
theorem lw_p73 : lw_okq (⟨"StampsCancelModel", "errandsOf", "(III)I"⟩, 35) := ⟨⟨by decide +kernel, by decide +kernel⟩, List.mem_of_getElem? (i := 1019) (by decide +kernel), List.mem_of_getElem? (i := 1357) (by decide +kernel), List.mem_of_getElem? (i := 1358) (by decide +kernel)⟩
theorem lw_p74 : lw_okq (⟨"StampsCancelModel", "findErrands", "(I)V"⟩, 35) := ⟨⟨by decide +kernel, by decide +kernel⟩, List.mem_of_getElem? (i := 1019) (by decide +kernel), List.mem_of_getElem? (i := 1361) (by decide +kernel), List.mem_of_getElem? (i := 1362) (by decide +kernel)⟩
theorem lw_p75 : lw_okq (⟨"StampsCancelModel", "stampsTo", "(I)I"⟩, 35) := ⟨⟨by decide +kernel, by decide +kernel⟩, List.mem_of_getElem? (i := 1019) (by decide +kernel), List.mem_of_getElem? (i := 1365) (by decide +kernel), List.mem_of_getElem? (i := 1366) (by decide +kernel)⟩
theorem lw_p76 : lw_okq (⟨"StampsCancelModel", "cleanOf", "(I)I"⟩, 35) := ⟨⟨by decide +kernel, by decide +kernel⟩, List.mem_of_getElem? (i := 1019) (by decide +kernel), List.mem_of_getElem? (i := 1373) (by decide +kernel), List.mem_of_getElem? (i := 1374) (by decide +kernel)⟩
theorem lw_p77 : lw_okq (⟨"StampsCancelModel", "foundOf", "(II)I"⟩, 35) := ⟨⟨by decide +kernel, by decide +kernel⟩, List.mem_of_getElem? (i := 1019) (by decide +kernel), List.mem_of_getElem? (i := 1381) (by decide +kernel), List.mem_of_getElem? (i := 1382) (by decide +kernel)⟩
theorem lw_p78 : lw_okq (⟨"StampsCancelModel", "manyOf", "(IIII)J"⟩, 35) := ⟨⟨by decide +kernel, by decide +kernel⟩, List.mem_of_getElem? (i := 1019) (by decide +kernel), List.mem_of_getElem? (i := 1390) (by decide +kernel), List.mem_of_getElem? (i := 1391) (by decide +kernel)⟩
theorem lw_p79 : lw_okq (⟨"StampsCancelModel", "findClosed", "(I)V"⟩, 35) := ⟨⟨by decide +kernel, by decide +kernel⟩, List.mem_of_getElem? (i := 1019) (by decide +kernel), List.mem_of_getElem? (i := 1394) (by decide +kernel), List.mem_of_getElem? (i := 1395) (by decide +kernel)⟩
def lw_privs_5 : List (MethodName × Nat) := [(⟨"StampsCancelModel", "alike", "()I"⟩, 35), (⟨"StampsCancelModel", "isAsked", "(IIII)Z"⟩, 35), (⟨"StampsCancelModel", "shortestOf", "(IIIII)J"⟩, 35), (⟨"StampsCancelModel", "findShortest", "(IIII)V"⟩, 35), (⟨"StampsCancelModel", "findUnseen", "()V"⟩, 35), (⟨"StampsCancelModel", "isUnseen", "(I)Z"⟩, 35), (⟨"StampsCancelModel", "findBetween", "()V"⟩, 35), (⟨"StampsCancelModel", "goesOn", "(II)V"⟩, 35), (⟨"StampsCancelModel", "leastUnseen", "(II)I"⟩, 35), (⟨"StampsCancelModel", "errandsOf", "(III)I"⟩, 35), (⟨"StampsCancelModel", "findErrands", "(I)V"⟩, 35), (⟨"StampsCancelModel", "stampsTo", "(I)I"⟩, 35), (⟨"StampsCancelModel", "cleanOf", "(I)I"⟩, 35), (⟨"StampsCancelModel", "foundOf", "(II)I"⟩, 35), (⟨"StampsCancelModel", "manyOf", "(IIII)J"⟩, 35), (⟨"StampsCancelModel", "findClosed", "(I)V"⟩, 35)]
theorem lw_r5 : ∀ q ∈ lw_privs_5, lw_okq q := List.forall_mem_cons.mpr ⟨lw_p64, List.forall_mem_cons.mpr ⟨lw_p65, List.forall_mem_cons.mpr ⟨lw_p66, List.forall_mem_cons.mpr ⟨lw_p67, List.forall_mem_cons.mpr ⟨lw_p68, List.forall_mem_cons.mpr ⟨lw_p69, List.forall_mem_cons.mpr ⟨lw_p70, List.forall_mem_cons.mpr ⟨lw_p71, List.forall_mem_cons.mpr ⟨lw_p72, List.forall_mem_cons.mpr ⟨lw_p73, List.forall_mem_cons.mpr ⟨lw_p74, List.forall_mem_cons.mpr ⟨lw_p75, List.forall_mem_cons.mpr ⟨lw_p76, List.forall_mem_cons.mpr ⟨lw_p77, List.forall_mem_cons.mpr ⟨lw_p78, List.forall_mem_cons.mpr ⟨lw_p79, fun _ h => absurd h List.not_mem_nil⟩⟩⟩⟩⟩⟩⟩⟩⟩⟩⟩⟩⟩⟩⟩⟩
theorem lw_p80 : lw_okq (⟨"StampsCancelModel", "closedBy", "(IIIII)J"⟩, 35) := ⟨⟨by decide +kernel, by decide +kernel⟩, List.mem_of_getElem? (i := 1019) (by decide +kernel), List.mem_of_getElem? (i := 1398) (by decide +kernel), List.mem_of_getElem? (i := 1399) (by decide +kernel)⟩
theorem lw_p81 : lw_okq (⟨"StampsCancelModel", "follows", "(IIII)V"⟩, 35) := ⟨⟨by decide +kernel, by decide +kernel⟩, List.mem_of_getElem? (i := 1019) (by decide +kernel), List.mem_of_getElem? (i := 1405) (by decide +kernel), List.mem_of_getElem? (i := 1406) (by decide +kernel)⟩
theorem lw_p82 : lw_okq (⟨"StampsCancelModel", "lists", "(Z)I"⟩, 35) := ⟨⟨by decide +kernel, by decide +kernel⟩, List.mem_of_getElem? (i := 1019) (by decide +kernel), List.mem_of_getElem? (i := 1413) (by decide +kernel), List.mem_of_getElem? (i := 1414) (by decide +kernel)⟩
theorem lw_p83 : lw_okq (⟨"StampsCancelModel", "listedAt", "(II)I"⟩, 35) := ⟨⟨by decide +kernel, by decide +kernel⟩, List.mem_of_getElem? (i := 1019) (by decide +kernel), List.mem_of_getElem? (i := 1430) (by decide +kernel), List.mem_of_getElem? (i := 1431) (by decide +kernel)⟩
theorem lw_p84 : lw_okq (⟨"StampsCancelModel", "letsBy", "(I)Z"⟩, 35) := ⟨⟨by decide +kernel, by decide +kernel⟩, List.mem_of_getElem? (i := 1019) (by decide +kernel), List.mem_of_getElem? (i := 1442) (by decide +kernel), List.mem_of_getElem? (i := 1443) (by decide +kernel)⟩
theorem lw_p85 : lw_okq (⟨"StampsCancelModel", "slipsOf", "(I)I"⟩, 35) := ⟨⟨by decide +kernel, by decide +kernel⟩, List.mem_of_getElem? (i := 1019) (by decide +kernel), List.mem_of_getElem? (i := 1450) (by decide +kernel), List.mem_of_getElem? (i := 1451) (by decide +kernel)⟩
theorem lw_p86 : lw_okq (⟨"StampsCancelModel", "fewestNow", "()I"⟩, 35) := ⟨⟨by decide +kernel, by decide +kernel⟩, List.mem_of_getElem? (i := 1019) (by decide +kernel), List.mem_of_getElem? (i := 1458) (by decide +kernel), List.mem_of_getElem? (i := 1459) (by decide +kernel)⟩
theorem lw_p87 : lw_okq (⟨"StampsCancelModel", "farOf", "(II)I"⟩, 35) := ⟨⟨by decide +kernel, by decide +kernel⟩, List.mem_of_getElem? (i := 1019) (by decide +kernel), List.mem_of_getElem? (i := 1469) (by decide +kernel), List.mem_of_getElem? (i := 1470) (by decide +kernel)⟩
theorem lw_p88 : lw_okq (⟨"StampsCancelModel", "findFar", "(III)V"⟩, 35) := ⟨⟨by decide +kernel, by decide +kernel⟩, List.mem_of_getElem? (i := 1019) (by decide +kernel), List.mem_of_getElem? (i := 1473) (by decide +kernel), List.mem_of_getElem? (i := 1474) (by decide +kernel)⟩
theorem lw_p89 : lw_okq (⟨"StampsCancelModel", "joins", "(II)V"⟩, 35) := ⟨⟨by decide +kernel, by decide +kernel⟩, List.mem_of_getElem? (i := 1019) (by decide +kernel), List.mem_of_getElem? (i := 1477) (by decide +kernel), List.mem_of_getElem? (i := 1478) (by decide +kernel)⟩
theorem lw_p90 : lw_okq (⟨"StampsCancelModel", "changed", "(IIII)I"⟩, 35) := ⟨⟨by decide +kernel, by decide +kernel⟩, List.mem_of_getElem? (i := 1019) (by decide +kernel), List.mem_of_getElem? (i := 1485) (by decide +kernel), List.mem_of_getElem? (i := 1486) (by decide +kernel)⟩
def lw_privs_6 : List (MethodName × Nat) := [(⟨"StampsCancelModel", "closedBy", "(IIIII)J"⟩, 35), (⟨"StampsCancelModel", "follows", "(IIII)V"⟩, 35), (⟨"StampsCancelModel", "lists", "(Z)I"⟩, 35), (⟨"StampsCancelModel", "listedAt", "(II)I"⟩, 35), (⟨"StampsCancelModel", "letsBy", "(I)Z"⟩, 35), (⟨"StampsCancelModel", "slipsOf", "(I)I"⟩, 35), (⟨"StampsCancelModel", "fewestNow", "()I"⟩, 35), (⟨"StampsCancelModel", "farOf", "(II)I"⟩, 35), (⟨"StampsCancelModel", "findFar", "(III)V"⟩, 35), (⟨"StampsCancelModel", "joins", "(II)V"⟩, 35), (⟨"StampsCancelModel", "changed", "(IIII)I"⟩, 35)]
theorem lw_r6 : ∀ q ∈ lw_privs_6, lw_okq q := List.forall_mem_cons.mpr ⟨lw_p80, List.forall_mem_cons.mpr ⟨lw_p81, List.forall_mem_cons.mpr ⟨lw_p82, List.forall_mem_cons.mpr ⟨lw_p83, List.forall_mem_cons.mpr ⟨lw_p84, List.forall_mem_cons.mpr ⟨lw_p85, List.forall_mem_cons.mpr ⟨lw_p86, List.forall_mem_cons.mpr ⟨lw_p87, List.forall_mem_cons.mpr ⟨lw_p88, List.forall_mem_cons.mpr ⟨lw_p89, List.forall_mem_cons.mpr ⟨lw_p90, fun _ h => absurd h List.not_mem_nil⟩⟩⟩⟩⟩⟩⟩⟩⟩⟩⟩
def lw_privs : List (MethodName × Nat) := lw_privs_1 ++ (lw_privs_2 ++ (lw_privs_3 ++ (lw_privs_4 ++ (lw_privs_5 ++ (lw_privs_6)))))
def lw_tbl : List Cond := k2_sels lw_privs ++ tables_1
theorem lw_privs_ok : ∀ q ∈ lw_privs, lw_okq q := by
  show ∀ q ∈ lw_privs_1 ++ (lw_privs_2 ++ (lw_privs_3 ++ (lw_privs_4 ++ (lw_privs_5 ++ (lw_privs_6))))), lw_okq q
  exact List.forall_mem_append.mpr ⟨lw_r1, List.forall_mem_append.mpr ⟨lw_r2, List.forall_mem_append.mpr ⟨lw_r3, List.forall_mem_append.mpr ⟨lw_r4, List.forall_mem_append.mpr ⟨lw_r5, lw_r6⟩⟩⟩⟩⟩
-- ===== end of PART A; then your names; then what follows =====
end
section
def RX0 : String := "StampsCancel$Distances"
def TX0 : u_T := fun k => match k with
  | 0 => ("StampsCancel$Distances", "apart", "[[I", true)
  | 1 => ("StampsCancel$Distances", "beside", "[I", true)
  | _ => ("StampsCancel$Distances", "queue", "[I", true)
def tyX0 : Nat → FieldType := fun k => match k with
  | 0 => .array (.array .int)
  | 1 => .array .int
  | _ => .array .int
abbrev wsX00 : List Cond := u_ws RX0 TX0 3
theorem nmX0 : ∀ a, a < 3 → ∀ b, b < 3 → a ≠ b → (TX0 a).2.1 ≠ (TX0 b).2.1 := by decide +kernel
theorem tyX0_ok : ∀ k, k < 3 → parseFieldDescriptor (TX0 k).2.2.1 = some (tyX0 k) := by decide +kernel
abbrev cX0_init : ByteArray := prog_2_method_1_code
def yX0_init : MethodName := ⟨RX0, "<init>", "()V"⟩
abbrev cX0_measure : ByteArray := prog_2_method_2_code
def yX0_measure : MethodName := ⟨RX0, "measure", "(LStampsCancel$Land;I)V"⟩
abbrev cX0_measureLinked : ByteArray := prog_2_method_3_code
def yX0_measureLinked : MethodName := ⟨RX0, "measureLinked", "(LStampsCancel$Land;III)V"⟩
abbrev cX0_measureFrom : ByteArray := prog_2_method_4_code
def yX0_measureFrom : MethodName := ⟨RX0, "measureFrom", "(LStampsCancel$Land;II)V"⟩
abbrev cX0_between : ByteArray := prog_2_method_5_code
def yX0_between : MethodName := ⟨RX0, "between", "(II)I"⟩
abbrev cX0_reachedFrom : ByteArray := prog_2_method_6_code
def yX0_reachedFrom : MethodName := ⟨RX0, "reachedFrom", "(I)I"⟩
abbrev cX0_pairsUnlike : ByteArray := prog_2_method_7_code
def yX0_pairsUnlike : MethodName := ⟨RX0, "pairsUnlike", "(LStampsCancel$Distances;)I"⟩
abbrev cX0_mostUnlike : ByteArray := prog_2_method_8_code
def yX0_mostUnlike : MethodName := ⟨RX0, "mostUnlike", "(LStampsCancel$Distances;)I"⟩
abbrev cX0_layOut : ByteArray := prog_2_method_9_code
def yX0_layOut : MethodName := ⟨RX0, "layOut", "(LStampsCancel$Land;I)V"⟩
abbrev cX0_link : ByteArray := prog_2_method_10_code
def yX0_link : MethodName := ⟨RX0, "link", "(II)V"⟩
abbrev cX0_spread : ByteArray := prog_2_method_11_code
def yX0_spread : MethodName := ⟨RX0, "spread", "(I)V"⟩
def RX1 : String := "StampsCancel$Errands"
def TX1 : u_T := fun k => match k with
  | 0 => ("StampsCancel$Errands", "land", "LStampsCancel$Land;", true)
  | 1 => ("StampsCancel$Errands", "lanes", "LStampsCancel$Distances;", true)
  | 2 => ("StampsCancel$Errands", "steps", "[I", true)
  | _ => ("StampsCancel$Errands", "stepsBefore", "[I", true)
def tyX1 : Nat → FieldType := fun k => match k with
  | 0 => .object "StampsCancel$Land"
  | 1 => .object "StampsCancel$Distances"
  | 2 => .array .int
  | _ => .array .int
abbrev wsX10 : List Cond := u_ws RX1 TX1 4
theorem nmX1 : ∀ a, a < 4 → ∀ b, b < 4 → a ≠ b → (TX1 a).2.1 ≠ (TX1 b).2.1 := by decide +kernel
theorem tyX1_ok : ∀ k, k < 4 → parseFieldDescriptor (TX1 k).2.2.1 = some (tyX1 k) := by decide +kernel
abbrev cX1_init : ByteArray := prog_3_method_1_code
def yX1_init : MethodName := ⟨RX1, "<init>", "(LStampsCancel$Land;)V"⟩
abbrev cX1_fullest : ByteArray := prog_3_method_2_code
def yX1_fullest : MethodName := ⟨RX1, "fullest", "(II)I"⟩
abbrev cX1_homely : ByteArray := prog_3_method_3_code
def yX1_homely : MethodName := ⟨RX1, "homely", "(I)I"⟩
abbrev cX1_stepsTo : ByteArray := prog_3_method_4_code
def yX1_stepsTo : MethodName := ⟨RX1, "stepsTo", "(I)I"⟩
abbrev cX1_reached : ByteArray := prog_3_method_5_code
def yX1_reached : MethodName := ⟨RX1, "reached", "()I"⟩
abbrev cX1_setOut : ByteArray := prog_3_method_6_code
def yX1_setOut : MethodName := ⟨RX1, "setOut", "(I)V"⟩
abbrev cX1_allowOneMore : ByteArray := prog_3_method_7_code
def yX1_allowOneMore : MethodName := ⟨RX1, "allowOneMore", "()Z"⟩
abbrev cX1_comeNearer : ByteArray := prog_3_method_8_code
def yX1_comeNearer : MethodName := ⟨RX1, "comeNearer", "(II)Z"⟩
def RX2 : String := "StampsCancel$Judge"
def TX2 : u_T := fun k => match k with
  | 0 => ("StampsCancel$Judge", "land", "LStampsCancel$Land;", true)
  | 1 => ("StampsCancel$Judge", "paper", "LStampsCancel$Paper;", true)
  | 2 => ("StampsCancel$Judge", "place", "I", false)
  | 3 => ("StampsCancel$Judge", "town", "I", false)
  | 4 => ("StampsCancel$Judge", "fullest", "I", false)
  | _ => ("StampsCancel$Judge", "struck", "I", false)
def tyX2 : Nat → FieldType := fun k => match k with
  | 0 => .object "StampsCancel$Land"
  | 1 => .object "StampsCancel$Paper"
  | 2 => .int
  | 3 => .int
  | 4 => .int
  | _ => .int
abbrev wsX20 : List Cond := u_ws RX2 TX2 6
theorem nmX2 : ∀ a, a < 6 → ∀ b, b < 6 → a ≠ b → (TX2 a).2.1 ≠ (TX2 b).2.1 := by decide +kernel
theorem tyX2_ok : ∀ k, k < 6 → parseFieldDescriptor (TX2 k).2.2.1 = some (tyX2 k) := by decide +kernel
abbrev cX2_init : ByteArray := prog_4_method_1_code
def yX2_init : MethodName := ⟨RX2, "<init>", "(LStampsCancel$Land;)V"⟩
abbrev cX2_onPaper : ByteArray := prog_4_method_2_code
def yX2_onPaper : MethodName := ⟨RX2, "onPaper", "()LStampsCancel$Paper;"⟩
abbrev cX2_begin : ByteArray := prog_4_method_3_code
def yX2_begin : MethodName := ⟨RX2, "begin", "(I)V"⟩
abbrev cX2_follow : ByteArray := prog_4_method_4_code
def yX2_follow : MethodName := ⟨RX2, "follow", "(LStampsCancel$Text;)V"⟩
abbrev cX2_mayPass : ByteArray := prog_4_method_5_code
def yX2_mayPass : MethodName := ⟨RX2, "mayPass", "(I)Z"⟩
abbrev cX2_pass : ByteArray := prog_4_method_6_code
def yX2_pass : MethodName := ⟨RX2, "pass", "(I)V"⟩
abbrev cX2_verdict : ByteArray := prog_4_method_7_code
def yX2_verdict : MethodName := ⟨RX2, "verdict", "(I)I"⟩
def RX3 : String := "StampsCancel$Land"
def TX3 : u_T := fun k => match k with
  | 0 => ("StampsCancel$Land", "from", "[I", true)
  | 1 => ("StampsCancel$Land", "gates", "I", false)
  | 2 => ("StampsCancel$Land", "watched", "I", false)
  | 3 => ("StampsCancel$Land", "shut", "I", false)
  | 4 => ("StampsCancel$Land", "room", "I", false)
  | _ => ("StampsCancel$Land", "fault", "I", false)
def tyX3 : Nat → FieldType := fun k => match k with
  | 0 => .array .int
  | 1 => .int
  | 2 => .int
  | 3 => .int
  | 4 => .int
  | _ => .int
abbrev wsX30 : List Cond := u_ws RX3 TX3 6
theorem nmX3 : ∀ a, a < 6 → ∀ b, b < 6 → a ≠ b → (TX3 a).2.1 ≠ (TX3 b).2.1 := by decide +kernel
theorem tyX3_ok : ∀ k, k < 6 → parseFieldDescriptor (TX3 k).2.2.1 = some (tyX3 k) := by decide +kernel
abbrev cX3_init : ByteArray := prog_5_method_1_code
def yX3_init : MethodName := ⟨RX3, "<init>", "()V"⟩
abbrev cX3_learn : ByteArray := prog_5_method_2_code
def yX3_learn : MethodName := ⟨RX3, "learn", "(LStampsCancel$Text;)V"⟩
abbrev cX3_forget : ByteArray := prog_5_method_3_code
def yX3_forget : MethodName := ⟨RX3, "forget", "()V"⟩
abbrev cX3_faultOf : ByteArray := prog_5_method_4_code
def yX3_faultOf : MethodName := ⟨RX3, "faultOf", "(LStampsCancel$Text;)I"⟩
abbrev cX3_takeGate : ByteArray := prog_5_method_5_code
def yX3_takeGate : MethodName := ⟨RX3, "takeGate", "(LStampsCancel$Text;I)I"⟩
abbrev cX3_takeRoom : ByteArray := prog_5_method_6_code
def yX3_takeRoom : MethodName := ⟨RX3, "takeRoom", "(LStampsCancel$Text;I)I"⟩
abbrev cX3_isTownByte : ByteArray := prog_5_method_7_code
def yX3_isTownByte : MethodName := ⟨RX3, "isTownByte", "(I)Z"⟩
abbrev cX3_isFigure : ByteArray := prog_5_method_8_code
def yX3_isFigure : MethodName := ⟨RX3, "isFigure", "(I)Z"⟩
abbrev cX3_close : ByteArray := prog_5_method_9_code
def yX3_close : MethodName := ⟨RX3, "close", "(I)I"⟩
abbrev cX3_faultPlace : ByteArray := prog_5_method_10_code
def yX3_faultPlace : MethodName := ⟨RX3, "faultPlace", "()I"⟩
abbrev cX3_roomTold : ByteArray := prog_5_method_11_code
def yX3_roomTold : MethodName := ⟨RX3, "roomTold", "()I"⟩
abbrev cX3_gatesTold : ByteArray := prog_5_method_12_code
def yX3_gatesTold : MethodName := ⟨RX3, "gatesTold", "()I"⟩
abbrev cX3_gatesWatched : ByteArray := prog_5_method_13_code
def yX3_gatesWatched : MethodName := ⟨RX3, "gatesWatched", "()I"⟩
abbrev cX3_hasGate : ByteArray := prog_5_method_14_code
def yX3_hasGate : MethodName := ⟨RX3, "hasGate", "(I)Z"⟩
abbrev cX3_letters : ByteArray := prog_5_method_15_code
def yX3_letters : MethodName := ⟨RX3, "letters", "()I"⟩
abbrev cX3_letterOf : ByteArray := prog_5_method_16_code
def yX3_letterOf : MethodName := ⟨RX3, "letterOf", "(I)I"⟩
abbrev cX3_from : ByteArray := prog_5_method_17_code
def yX3_from : MethodName := ⟨RX3, "from", "(I)I"⟩
abbrev cX3_to : ByteArray := prog_5_method_18_code
def yX3_to : MethodName := ⟨RX3, "to", "(I)I"⟩
abbrev cX3_isWatched : ByteArray := prog_5_method_19_code
def yX3_isWatched : MethodName := ⟨RX3, "isWatched", "(I)Z"⟩
abbrev cX3_isOpen : ByteArray := prog_5_method_20_code
def yX3_isOpen : MethodName := ⟨RX3, "isOpen", "(I)Z"⟩
abbrev cX3_openGates : ByteArray := prog_5_method_21_code
def yX3_openGates : MethodName := ⟨RX3, "openGates", "()I"⟩
abbrev cX3_openLanes : ByteArray := prog_5_method_22_code
def yX3_openLanes : MethodName := ⟨RX3, "openLanes", "()I"⟩
def RX4 : String := "StampsCancel$Listing"
def TX4 : u_T := fun k => match k with
  | 0 => ("StampsCancel$Listing", "stamps", "[I", true)
  | 1 => ("StampsCancel$Listing", "sizes", "[I", true)
  | 2 => ("StampsCancel$Listing", "good", "[I", true)
  | 3 => ("StampsCancel$Listing", "unlike", "[I", true)
  | _ => ("StampsCancel$Listing", "size", "I", false)
def tyX4 : Nat → FieldType := fun k => match k with
  | 0 => .array .int
  | 1 => .array .int
  | 2 => .array .int
  | 3 => .array .int
  | _ => .int
abbrev wsX40 : List Cond := u_ws RX4 TX4 5
theorem nmX4 : ∀ a, a < 5 → ∀ b, b < 5 → a ≠ b → (TX4 a).2.1 ≠ (TX4 b).2.1 := by decide +kernel
theorem tyX4_ok : ∀ k, k < 5 → parseFieldDescriptor (TX4 k).2.2.1 = some (tyX4 k) := by decide +kernel
abbrev cX4_init : ByteArray := prog_6_method_1_code
def yX4_init : MethodName := ⟨RX4, "<init>", "()V"⟩
abbrev cX4_isFull : ByteArray := prog_6_method_2_code
def yX4_isFull : MethodName := ⟨RX4, "isFull", "()Z"⟩
abbrev cX4_size : ByteArray := prog_6_method_3_code
def yX4_size : MethodName := ⟨RX4, "size", "()I"⟩
abbrev cX4_append : ByteArray := prog_6_method_4_code
def yX4_append : MethodName := ⟨RX4, "append", "(LStampsCancel$Paper;I)V"⟩
abbrev cX4_dropLast : ByteArray := prog_6_method_5_code
def yX4_dropLast : MethodName := ⟨RX4, "dropLast", "()V"⟩
abbrev cX4_goodOnes : ByteArray := prog_6_method_6_code
def yX4_goodOnes : MethodName := ⟨RX4, "goodOnes", "()I"⟩
abbrev cX4_stampsOf : ByteArray := prog_6_method_7_code
def yX4_stampsOf : MethodName := ⟨RX4, "stampsOf", "(I)I"⟩
abbrev cX4_stampAt : ByteArray := prog_6_method_8_code
def yX4_stampAt : MethodName := ⟨RX4, "stampAt", "(II)I"⟩
abbrev cX4_letsBy : ByteArray := prog_6_method_9_code
def yX4_letsBy : MethodName := ⟨RX4, "letsBy", "(LStampsCancel$Paper;I)Z"⟩
abbrev cX4_slipping : ByteArray := prog_6_method_10_code
def yX4_slipping : MethodName := ⟨RX4, "slipping", "(I)I"⟩
abbrev cX4_fewestPlaces : ByteArray := prog_6_method_11_code
def yX4_fewestPlaces : MethodName := ⟨RX4, "fewestPlaces", "()I"⟩
abbrev cX4_gatherUnlike : ByteArray := prog_6_method_12_code
def yX4_gatherUnlike : MethodName := ⟨RX4, "gatherUnlike", "()I"⟩
abbrev cX4_partsAll : ByteArray := prog_6_method_13_code
def yX4_partsAll : MethodName := ⟨RX4, "partsAll", "(II)Z"⟩
abbrev cX4_isLetBy : ByteArray := prog_6_method_14_code
def yX4_isLetBy : MethodName := ⟨RX4, "isLetBy", "(II)Z"⟩
abbrev cX4_unlikeOf : ByteArray := prog_6_method_15_code
def yX4_unlikeOf : MethodName := ⟨RX4, "unlikeOf", "(II)I"⟩
abbrev cX4_unlikeAt : ByteArray := prog_6_method_16_code
def yX4_unlikeAt : MethodName := ⟨RX4, "unlikeAt", "(LStampsCancel$Paper;I)I"⟩
def RX5 : String := "StampsCancel$Paper"
def TX5 : u_T := fun k => match k with
  | 0 => ("StampsCancel$Paper", "stamps", "[I", true)
  | _ => ("StampsCancel$Paper", "size", "I", false)
def tyX5 : Nat → FieldType := fun k => match k with
  | 0 => .array .int
  | _ => .int
abbrev wsX50 : List Cond := u_ws RX5 TX5 2
theorem nmX5 : ∀ a, a < 2 → ∀ b, b < 2 → a ≠ b → (TX5 a).2.1 ≠ (TX5 b).2.1 := by decide +kernel
theorem tyX5_ok : ∀ k, k < 2 → parseFieldDescriptor (TX5 k).2.2.1 = some (tyX5 k) := by decide +kernel
abbrev cX5_init : ByteArray := prog_7_method_1_code
def yX5_init : MethodName := ⟨RX5, "<init>", "()V"⟩
abbrev cX5_empty : ByteArray := prog_7_method_2_code
def yX5_empty : MethodName := ⟨RX5, "empty", "()V"⟩
abbrev cX5_size : ByteArray := prog_7_method_3_code
def yX5_size : MethodName := ⟨RX5, "size", "()I"⟩
abbrev cX5_at : ByteArray := prog_7_method_4_code
def yX5_at : MethodName := ⟨RX5, "at", "(I)I"⟩
abbrev cX5_strikes : ByteArray := prog_7_method_5_code
def yX5_strikes : MethodName := ⟨RX5, "strikes", "(I)Z"⟩
abbrev cX5_stamp : ByteArray := prog_7_method_6_code
def yX5_stamp : MethodName := ⟨RX5, "stamp", "(I)V"⟩
abbrev cX5_alike : ByteArray := prog_7_method_7_code
def yX5_alike : MethodName := ⟨RX5, "alike", "(LStampsCancel$Paper;)I"⟩
def RX6 : String := "StampsCancel$Route"
def TX6 : u_T := fun k => match k with
  | 0 => ("StampsCancel$Route", "land", "LStampsCancel$Land;", true)
  | 1 => ("StampsCancel$Route", "lanes", "LStampsCancel$Distances;", true)
  | 2 => ("StampsCancel$Route", "needs", "[I", true)
  | 3 => ("StampsCancel$Route", "size", "I", false)
  | 4 => ("StampsCancel$Route", "ways", "[J", true)
  | _ => ("StampsCancel$Route", "waysThen", "[J", true)
def tyX6 : Nat → FieldType := fun k => match k with
  | 0 => .object "StampsCancel$Land"
  | 1 => .object "StampsCancel$Distances"
  | 2 => .array .int
  | 3 => .int
  | 4 => .array .long
  | _ => .array .long
abbrev wsX60 : List Cond := u_ws RX6 TX6 6
theorem nmX6 : ∀ a, a < 6 → ∀ b, b < 6 → a ≠ b → (TX6 a).2.1 ≠ (TX6 b).2.1 := by decide +kernel
theorem tyX6_ok : ∀ k, k < 6 → parseFieldDescriptor (TX6 k).2.2.1 = some (tyX6 k) := by decide +kernel
abbrev cX6_init : ByteArray := prog_8_method_1_code
def yX6_init : MethodName := ⟨RX6, "<init>", "(LStampsCancel$Land;)V"⟩
abbrev cX6_plan : ByteArray := prog_8_method_2_code
def yX6_plan : MethodName := ⟨RX6, "plan", "(LStampsCancel$Paper;LStampsCancel$Paper;)V"⟩
abbrev cX6_need : ByteArray := prog_8_method_3_code
def yX6_need : MethodName := ⟨RX6, "need", "(I)V"⟩
abbrev cX6_needAt : ByteArray := prog_8_method_4_code
def yX6_needAt : MethodName := ⟨RX6, "needAt", "(I)I"⟩
abbrev cX6_goal : ByteArray := prog_8_method_5_code
def yX6_goal : MethodName := ⟨RX6, "goal", "(II)I"⟩
abbrev cX6_origin : ByteArray := prog_8_method_6_code
def yX6_origin : MethodName := ⟨RX6, "origin", "(II)I"⟩
abbrev cX6_gatesBetween : ByteArray := prog_8_method_7_code
def yX6_gatesBetween : MethodName := ⟨RX6, "gatesBetween", "(II)I"⟩
abbrev cX6_ways : ByteArray := prog_8_method_8_code
def yX6_ways : MethodName := ⟨RX6, "ways", "(II)J"⟩
abbrev cX6_laneWays : ByteArray := prog_8_method_9_code
def yX6_laneWays : MethodName := ⟨RX6, "laneWays", "(II)J"⟩
abbrev cX6_stepNearer : ByteArray := prog_8_method_10_code
def yX6_stepNearer : MethodName := ⟨RX6, "stepNearer", "(II)V"⟩
abbrev cX6_isLane : ByteArray := prog_8_method_11_code
def yX6_isLane : MethodName := ⟨RX6, "isLane", "(I)Z"⟩
abbrev cX6_leastLetter : ByteArray := prog_8_method_12_code
def yX6_leastLetter : MethodName := ⟨RX6, "leastLetter", "(III)I"⟩
abbrev cX6_leastLaneLetter : ByteArray := prog_8_method_13_code
def yX6_leastLaneLetter : MethodName := ⟨RX6, "leastLaneLetter", "(III)I"⟩
abbrev cX6_leastNearer : ByteArray := prog_8_method_14_code
def yX6_leastNearer : MethodName := ⟨RX6, "leastNearer", "(II)I"⟩
abbrev cX6_starts : ByteArray := prog_8_method_15_code
def yX6_starts : MethodName := ⟨RX6, "starts", "()I"⟩
abbrev cX6_ends : ByteArray := prog_8_method_16_code
def yX6_ends : MethodName := ⟨RX6, "ends", "()I"⟩
abbrev cX6_isChained : ByteArray := prog_8_method_17_code
def yX6_isChained : MethodName := ⟨RX6, "isChained", "()Z"⟩
def RX7 : String := "StampsCancel$Sheets"
def TX7 : u_T := fun k => match k with
  | 0 => ("StampsCancel$Sheets", "items", "[[I", true)
  | 1 => ("StampsCancel$Sheets", "sizes", "[I", true)
  | 2 => ("StampsCancel$Sheets", "forms", "[I", true)
  | _ => ("StampsCancel$Sheets", "latest", "I", false)
def tyX7 : Nat → FieldType := fun k => match k with
  | 0 => .array (.array .int)
  | 1 => .array .int
  | 2 => .array .int
  | _ => .int
abbrev wsX70 : List Cond := u_ws RX7 TX7 4
theorem nmX7 : ∀ a, a < 4 → ∀ b, b < 4 → a ≠ b → (TX7 a).2.1 ≠ (TX7 b).2.1 := by decide +kernel
theorem tyX7_ok : ∀ k, k < 4 → parseFieldDescriptor (TX7 k).2.2.1 = some (tyX7 k) := by decide +kernel
abbrev cX7_init : ByteArray := prog_9_method_1_code
def yX7_init : MethodName := ⟨RX7, "<init>", "()V"⟩
abbrev cX7_find : ByteArray := prog_9_method_2_code
def yX7_find : MethodName := ⟨RX7, "find", "(I)I"⟩
abbrev cX7_latestFinding : ByteArray := prog_9_method_3_code
def yX7_latestFinding : MethodName := ⟨RX7, "latestFinding", "()I"⟩
abbrev cX7_isLost : ByteArray := prog_9_method_4_code
def yX7_isLost : MethodName := ⟨RX7, "isLost", "(I)Z"⟩
abbrev cX7_size : ByteArray := prog_9_method_5_code
def yX7_size : MethodName := ⟨RX7, "size", "(I)I"⟩
abbrev cX7_make : ByteArray := prog_9_method_6_code
def yX7_make : MethodName := ⟨RX7, "make", "(III)V"⟩
abbrev cX7_drop : ByteArray := prog_9_method_7_code
def yX7_drop : MethodName := ⟨RX7, "drop", "(I)V"⟩
abbrev cX7_findingAt : ByteArray := prog_9_method_8_code
def yX7_findingAt : MethodName := ⟨RX7, "findingAt", "(III)I"⟩
abbrev cX7_findingOfCopy : ByteArray := prog_9_method_9_code
def yX7_findingOfCopy : MethodName := ⟨RX7, "findingOfCopy", "(IIIII)I"⟩
abbrev cX7_hasRun : ByteArray := prog_9_method_10_code
def yX7_hasRun : MethodName := ⟨RX7, "hasRun", "(III)Z"⟩
abbrev cX7_item : ByteArray := prog_9_method_11_code
def yX7_item : MethodName := ⟨RX7, "item", "(II)I"⟩
abbrev cX7_put : ByteArray := prog_9_method_12_code
def yX7_put : MethodName := ⟨RX7, "put", "(III)V"⟩
abbrev cX7_move : ByteArray := prog_9_method_13_code
def yX7_move : MethodName := ⟨RX7, "move", "(IIIII)V"⟩
def RX8 : String := "StampsCancel$Text"
def TX8 : u_T := fun k => match k with
  | 0 => ("StampsCancel$Text", "bytes", "[I", true)
  | 1 => ("StampsCancel$Text", "limit", "I", true)
  | _ => ("StampsCancel$Text", "size", "I", false)
def tyX8 : Nat → FieldType := fun k => match k with
  | 0 => .array .int
  | 1 => .int
  | _ => .int
abbrev wsX80 : List Cond := u_ws RX8 TX8 3
theorem nmX8 : ∀ a, a < 3 → ∀ b, b < 3 → a ≠ b → (TX8 a).2.1 ≠ (TX8 b).2.1 := by decide +kernel
theorem tyX8_ok : ∀ k, k < 3 → parseFieldDescriptor (TX8 k).2.2.1 = some (tyX8 k) := by decide +kernel
abbrev cX8_init : ByteArray := prog_10_method_1_code
def yX8_init : MethodName := ⟨RX8, "<init>", "(I)V"⟩
abbrev cX8_isFull : ByteArray := prog_10_method_2_code
def yX8_isFull : MethodName := ⟨RX8, "isFull", "()Z"⟩
abbrev cX8_append : ByteArray := prog_10_method_3_code
def yX8_append : MethodName := ⟨RX8, "append", "(I)V"⟩
abbrev cX8_empty : ByteArray := prog_10_method_4_code
def yX8_empty : MethodName := ⟨RX8, "empty", "()V"⟩
abbrev cX8_size : ByteArray := prog_10_method_5_code
def yX8_size : MethodName := ⟨RX8, "size", "()I"⟩
abbrev cX8_at : ByteArray := prog_10_method_6_code
def yX8_at : MethodName := ⟨RX8, "at", "(I)I"⟩
def RX9 : String := "StampsCancel$Walks"
def TX9 : u_T := fun k => match k with
  | 0 => ("StampsCancel$Walks", "land", "LStampsCancel$Land;", true)
  | 1 => ("StampsCancel$Walks", "lanes", "LStampsCancel$Distances;", true)
  | 2 => ("StampsCancel$Walks", "joined", "[I", true)
  | 3 => ("StampsCancel$Walks", "behind", "[[J", true)
  | 4 => ("StampsCancel$Walks", "rounds", "[J", true)
  | 5 => ("StampsCancel$Walks", "sofar", "[J", true)
  | _ => ("StampsCancel$Walks", "entered", "[J", true)
def tyX9 : Nat → FieldType := fun k => match k with
  | 0 => .object "StampsCancel$Land"
  | 1 => .object "StampsCancel$Distances"
  | 2 => .array .int
  | 3 => .array (.array .long)
  | 4 => .array .long
  | 5 => .array .long
  | _ => .array .long
abbrev wsX90 : List Cond := u_ws RX9 TX9 7
theorem nmX9 : ∀ a, a < 7 → ∀ b, b < 7 → a ≠ b → (TX9 a).2.1 ≠ (TX9 b).2.1 := by decide +kernel
theorem tyX9_ok : ∀ k, k < 7 → parseFieldDescriptor (TX9 k).2.2.1 = some (tyX9 k) := by decide +kernel
abbrev cX9_init : ByteArray := prog_11_method_1_code
def yX9_init : MethodName := ⟨RX9, "<init>", "(LStampsCancel$Land;)V"⟩
abbrev cX9_number : ByteArray := prog_11_method_2_code
def yX9_number : MethodName := ⟨RX9, "number", "(ILStampsCancel$Paper;II)J"⟩
abbrev cX9_joinTowns : ByteArray := prog_11_method_3_code
def yX9_joinTowns : MethodName := ⟨RX9, "joinTowns", "()V"⟩
abbrev cX9_stampForGood : ByteArray := prog_11_method_4_code
def yX9_stampForGood : MethodName := ⟨RX9, "stampForGood", "(II)V"⟩
abbrev cX9_countFrom : ByteArray := prog_11_method_5_code
def yX9_countFrom : MethodName := ⟨RX9, "countFrom", "(III)V"⟩
abbrev cX9_countRounds : ByteArray := prog_11_method_6_code
def yX9_countRounds : MethodName := ⟨RX9, "countRounds", "(I)V"⟩
abbrev cX9_lengthen : ByteArray := prog_11_method_7_code
def yX9_lengthen : MethodName := ⟨RX9, "lengthen", "([JIII)V"⟩
abbrev cX9_goOnByLanes : ByteArray := prog_11_method_8_code
def yX9_goOnByLanes : MethodName := ⟨RX9, "goOnByLanes", "([JI)V"⟩
abbrev cX9_behindRounds : ByteArray := prog_11_method_9_code
def yX9_behindRounds : MethodName := ⟨RX9, "behindRounds", "([JIII)J"⟩
def RX10 : String := "StampsCancel"
def TX10 : u_T := fun k => match k with
  | 0 => ("StampsCancel", "land", "LStampsCancel$Land;", true)
  | 1 => ("StampsCancel", "texts", "[LStampsCancel$Text;", true)
  | 2 => ("StampsCancel", "paperA", "LStampsCancel$Paper;", true)
  | 3 => ("StampsCancel", "paperB", "LStampsCancel$Paper;", true)
  | 4 => ("StampsCancel", "judge", "LStampsCancel$Judge;", true)
  | 5 => ("StampsCancel", "route", "LStampsCancel$Route;", true)
  | 6 => ("StampsCancel", "errands", "LStampsCancel$Errands;", true)
  | 7 => ("StampsCancel", "walks", "LStampsCancel$Walks;", true)
  | 8 => ("StampsCancel", "listing", "LStampsCancel$Listing;", true)
  | 9 => ("StampsCancel", "now", "LStampsCancel$Distances;", true)
  | 10 => ("StampsCancel", "then", "LStampsCancel$Distances;", true)
  | _ => ("StampsCancel", "sheets", "LStampsCancel$Sheets;", true)
def tyX10 : Nat → FieldType := fun k => match k with
  | 0 => .object "StampsCancel$Land"
  | 1 => .array (.object "StampsCancel$Text")
  | 2 => .object "StampsCancel$Paper"
  | 3 => .object "StampsCancel$Paper"
  | 4 => .object "StampsCancel$Judge"
  | 5 => .object "StampsCancel$Route"
  | 6 => .object "StampsCancel$Errands"
  | 7 => .object "StampsCancel$Walks"
  | 8 => .object "StampsCancel$Listing"
  | 9 => .object "StampsCancel$Distances"
  | 10 => .object "StampsCancel$Distances"
  | _ => .object "StampsCancel$Sheets"
abbrev wsX100 : List Cond := u_ws RX10 TX10 12
theorem nmX10 : ∀ a, a < 12 → ∀ b, b < 12 → a ≠ b → (TX10 a).2.1 ≠ (TX10 b).2.1 := by decide +kernel
theorem tyX10_ok : ∀ k, k < 12 → parseFieldDescriptor (TX10 k).2.2.1 = some (tyX10 k) := by decide +kernel
abbrev cX10_init : ByteArray := prog_1_method_1_code
def yX10_init : MethodName := ⟨RX10, "<init>", "()V"⟩
abbrev cX10_type : ByteArray := prog_1_method_2_code
def yX10_type : MethodName := ⟨RX10, "type", "(II)I"⟩
abbrev cX10_wipe : ByteArray := prog_1_method_3_code
def yX10_wipe : MethodName := ⟨RX10, "wipe", "(I)I"⟩
abbrev cX10_fault : ByteArray := prog_1_method_4_code
def yX10_fault : MethodName := ⟨RX10, "fault", "(I)I"⟩
abbrev cX10_gate : ByteArray := prog_1_method_5_code
def yX10_gate : MethodName := ⟨RX10, "gate", "(II)I"⟩
abbrev cX10_room : ByteArray := prog_1_method_6_code
def yX10_room : MethodName := ⟨RX10, "room", "()I"⟩
abbrev cX10_shut : ByteArray := prog_1_method_7_code
def yX10_shut : MethodName := ⟨RX10, "shut", "(I)I"⟩
abbrev cX10_paper : ByteArray := prog_1_method_8_code
def yX10_paper : MethodName := ⟨RX10, "paper", "(II)I"⟩
abbrev cX10_judged : ByteArray := prog_1_method_9_code
def yX10_judged : MethodName := ⟨RX10, "judged", "(IIII)I"⟩
abbrev cX10_same : ByteArray := prog_1_method_10_code
def yX10_same : MethodName := ⟨RX10, "same", "(II)I"⟩
abbrev cX10_shortest : ByteArray := prog_1_method_11_code
def yX10_shortest : MethodName := ⟨RX10, "shortest", "(IIIII)J"⟩
abbrev cX10_letter : ByteArray := prog_1_method_12_code
def yX10_letter : MethodName := ⟨RX10, "letter", "(IIIII)I"⟩
abbrev cX10_errands : ByteArray := prog_1_method_13_code
def yX10_errands : MethodName := ⟨RX10, "errands", "(III)I"⟩
abbrev cX10_clean : ByteArray := prog_1_method_14_code
def yX10_clean : MethodName := ⟨RX10, "clean", "(I)I"⟩
abbrev cX10_found : ByteArray := prog_1_method_15_code
def yX10_found : MethodName := ⟨RX10, "found", "(II)I"⟩
abbrev cX10_many : ByteArray := prog_1_method_16_code
def yX10_many : MethodName := ⟨RX10, "many", "(IIII)J"⟩
abbrev cX10_list : ByteArray := prog_1_method_17_code
def yX10_list : MethodName := ⟨RX10, "list", "(II)I"⟩
abbrev cX10_read : ByteArray := prog_1_method_18_code
def yX10_read : MethodName := ⟨RX10, "read", "(I)I"⟩
abbrev cX10_unlist : ByteArray := prog_1_method_19_code
def yX10_unlist : MethodName := ⟨RX10, "unlist", "()I"⟩
abbrev cX10_listed : ByteArray := prog_1_method_20_code
def yX10_listed : MethodName := ⟨RX10, "listed", "(II)I"⟩
abbrev cX10_lets : ByteArray := prog_1_method_21_code
def yX10_lets : MethodName := ⟨RX10, "lets", "(II)I"⟩
abbrev cX10_slips : ByteArray := prog_1_method_22_code
def yX10_slips : MethodName := ⟨RX10, "slips", "(I)I"⟩
abbrev cX10_fewest : ByteArray := prog_1_method_23_code
def yX10_fewest : MethodName := ⟨RX10, "fewest", "()I"⟩
abbrev cX10_far : ByteArray := prog_1_method_24_code
def yX10_far : MethodName := ⟨RX10, "far", "(II)I"⟩
abbrev cX10_without : ByteArray := prog_1_method_25_code
def yX10_without : MethodName := ⟨RX10, "without", "(II)I"⟩
abbrev cX10_with : ByteArray := prog_1_method_26_code
def yX10_with : MethodName := ⟨RX10, "with", "(III)I"⟩
abbrev cX10_sheet : ByteArray := prog_1_method_27_code
def yX10_sheet : MethodName := ⟨RX10, "sheet", "(III)I"⟩
abbrev cX10_lose : ByteArray := prog_1_method_28_code
def yX10_lose : MethodName := ⟨RX10, "lose", "(I)I"⟩
abbrev cX10_lay : ByteArray := prog_1_method_29_code
def yX10_lay : MethodName := ⟨RX10, "lay", "(IIII)I"⟩
abbrev cX10_get : ByteArray := prog_1_method_30_code
def yX10_get : MethodName := ⟨RX10, "get", "(III)I"⟩
abbrev cX10_copy : ByteArray := prog_1_method_31_code
def yX10_copy : MethodName := ⟨RX10, "copy", "(IIIII)I"⟩
abbrev cX10_write : ByteArray := prog_1_method_32_code
def yX10_write : MethodName := ⟨RX10, "write", "(II)I"⟩
abbrev cX10_count : ByteArray := prog_1_method_33_code
def yX10_count : MethodName := ⟨RX10, "count", "(I)I"⟩
abbrev cX10_digest : ByteArray := prog_1_method_34_code
def yX10_digest : MethodName := ⟨RX10, "digest", "()J"⟩
abbrev cX10_digestGate : ByteArray := prog_1_method_35_code
def yX10_digestGate : MethodName := ⟨RX10, "digestGate", "(JI)J"⟩
abbrev cX10_digestWay : ByteArray := prog_1_method_36_code
def yX10_digestWay : MethodName := ⟨RX10, "digestWay", "(JI)J"⟩
abbrev cX10_digestTown : ByteArray := prog_1_method_37_code
def yX10_digestTown : MethodName := ⟨RX10, "digestTown", "(JI)J"⟩
abbrev cX10_isText : ByteArray := prog_1_method_38_code
def yX10_isText : MethodName := ⟨RX10, "isText", "(I)Z"⟩
abbrev cX10_isWay : ByteArray := prog_1_method_39_code
def yX10_isWay : MethodName := ⟨RX10, "isWay", "(I)Z"⟩
abbrev cX10_isWayOrClean : ByteArray := prog_1_method_40_code
def yX10_isWayOrClean : MethodName := ⟨RX10, "isWayOrClean", "(I)Z"⟩
abbrev cX10_isTown : ByteArray := prog_1_method_41_code
def yX10_isTown : MethodName := ⟨RX10, "isTown", "(I)Z"⟩
abbrev cX10_arePlaces : ByteArray := prog_1_method_42_code
def yX10_arePlaces : MethodName := ⟨RX10, "arePlaces", "(I)Z"⟩
abbrev cX10_isSheet : ByteArray := prog_1_method_43_code
def yX10_isSheet : MethodName := ⟨RX10, "isSheet", "(I)Z"⟩
abbrev cX10_isForm : ByteArray := prog_1_method_44_code
def yX10_isForm : MethodName := ⟨RX10, "isForm", "(I)Z"⟩
abbrev cX10_areEnds : ByteArray := prog_1_method_45_code
def yX10_areEnds : MethodName := ⟨RX10, "areEnds", "(IIII)Z"⟩
abbrev cX10_longRefusal : ByteArray := prog_1_method_46_code
def yX10_longRefusal : MethodName := ⟨RX10, "longRefusal", "(I)J"⟩
abbrev cX10_byteOf : ByteArray := prog_1_method_47_code
def yX10_byteOf : MethodName := ⟨RX10, "byteOf", "(I)I"⟩
abbrev cX10_learnIfLand : ByteArray := prog_1_method_48_code
def yX10_learnIfLand : MethodName := ⟨RX10, "learnIfLand", "(I)V"⟩
abbrev cX10_wayFault : ByteArray := prog_1_method_49_code
def yX10_wayFault : MethodName := ⟨RX10, "wayFault", "(LStampsCancel$Text;)I"⟩
abbrev cX10_stampWay : ByteArray := prog_1_method_50_code
def yX10_stampWay : MethodName := ⟨RX10, "stampWay", "(ILStampsCancel$Paper;)V"⟩
abbrev cX10_judgeWay : ByteArray := prog_1_method_51_code
def yX10_judgeWay : MethodName := ⟨RX10, "judgeWay", "(III)V"⟩
abbrev cX10_planRoute : ByteArray := prog_1_method_52_code
def yX10_planRoute : MethodName := ⟨RX10, "planRoute", "(IIII)I"⟩
abbrev cX10_listIfRoom : ByteArray := prog_1_method_53_code
def yX10_listIfRoom : MethodName := ⟨RX10, "listIfRoom", "(LStampsCancel$Paper;)V"⟩
def RX11 : String := "StampsCancelModel"
def TX11 : u_T := fun k => match k with
  | 0 => ("StampsCancelModel", "forms", "[I", true)
  | 1 => ("StampsCancelModel", "sizes", "[I", true)
  | 2 => ("StampsCancelModel", "items", "[I", true)
  | 3 => ("StampsCancelModel", "moved", "[I", true)
  | 4 => ("StampsCancelModel", "latest", "I", false)
  | 5 => ("StampsCancelModel", "bytes", "[I", true)
  | 6 => ("StampsCancelModel", "typed", "[I", true)
  | 7 => ("StampsCancelModel", "at", "I", false)
  | 8 => ("StampsCancelModel", "gates", "I", false)
  | 9 => ("StampsCancelModel", "first", "[I", true)
  | 10 => ("StampsCancelModel", "second", "[I", true)
  | 11 => ("StampsCancelModel", "watched", "[Z", true)
  | 12 => ("StampsCancelModel", "roomNow", "I", false)
  | 13 => ("StampsCancelModel", "shutNow", "I", false)
  | 14 => ("StampsCancelModel", "stamps", "[I", true)
  | 15 => ("StampsCancelModel", "lengths", "[I", true)
  | 16 => ("StampsCancelModel", "pairs", "I", false)
  | 17 => ("StampsCancelModel", "unseen", "[I", true)
  | 18 => ("StampsCancelModel", "unseenWays", "[J", true)
  | 19 => ("StampsCancelModel", "between", "[I", true)
  | 20 => ("StampsCancelModel", "betweenMany", "I", false)
  | 21 => ("StampsCancelModel", "fewest", "I", false)
  | 22 => ("StampsCancelModel", "fewestWays", "J", false)
  | 23 => ("StampsCancelModel", "can", "Z", false)
  | 24 => ("StampsCancelModel", "gatesTo", "[I", true)
  | 25 => ("StampsCancelModel", "closed", "[J", true)
  | 26 => ("StampsCancelModel", "sofar", "[J", true)
  | 27 => ("StampsCancelModel", "behind", "[J", true)
  | 28 => ("StampsCancelModel", "listings", "I", false)
  | 29 => ("StampsCancelModel", "listedStamps", "[I", true)
  | 30 => ("StampsCancelModel", "listedLong", "[I", true)
  | 31 => ("StampsCancelModel", "listedGood", "[Z", true)
  | 32 => ("StampsCancelModel", "shown", "[I", true)
  | 33 => ("StampsCancelModel", "farNow", "[I", true)
  | _ => ("StampsCancelModel", "farWas", "[I", true)
def tyX11 : Nat → FieldType := fun k => match k with
  | 0 => .array .int
  | 1 => .array .int
  | 2 => .array .int
  | 3 => .array .int
  | 4 => .int
  | 5 => .array .int
  | 6 => .array .int
  | 7 => .int
  | 8 => .int
  | 9 => .array .int
  | 10 => .array .int
  | 11 => .array .boolean
  | 12 => .int
  | 13 => .int
  | 14 => .array .int
  | 15 => .array .int
  | 16 => .int
  | 17 => .array .int
  | 18 => .array .long
  | 19 => .array .int
  | 20 => .int
  | 21 => .int
  | 22 => .long
  | 23 => .boolean
  | 24 => .array .int
  | 25 => .array .long
  | 26 => .array .long
  | 27 => .array .long
  | 28 => .int
  | 29 => .array .int
  | 30 => .array .int
  | 31 => .array .boolean
  | 32 => .array .int
  | 33 => .array .int
  | _ => .array .int
abbrev wsX110 : List Cond := u_ws RX11 TX11 35
theorem nmX11 : ∀ a, a < 35 → ∀ b, b < 35 → a ≠ b → (TX11 a).2.1 ≠ (TX11 b).2.1 := by decide +kernel
theorem tyX11_ok : ∀ k, k < 35 → parseFieldDescriptor (TX11 k).2.2.1 = some (tyX11 k) := by decide +kernel
abbrev cX11_init : ByteArray := prog_13_method_1_code
def yX11_init : MethodName := ⟨RX11, "<init>", "()V"⟩
abbrev cX11_in : ByteArray := prog_13_method_3_code
def yX11_in : MethodName := ⟨RX11, "in", "(JJJ)Z"⟩
abbrev cX11_no : ByteArray := prog_13_method_4_code
def yX11_no : MethodName := ⟨RX11, "no", "(I)J"⟩
abbrev cX11_isTwo : ByteArray := prog_13_method_5_code
def yX11_isTwo : MethodName := ⟨RX11, "isTwo", "(I)Z"⟩
abbrev cX11_isTown : ByteArray := prog_13_method_6_code
def yX11_isTown : MethodName := ⟨RX11, "isTown", "(I)Z"⟩
abbrev cX11_met : ByteArray := prog_13_method_7_code
def yX11_met : MethodName := ⟨RX11, "met", "(I)I"⟩
abbrev cX11_isSheet : ByteArray := prog_13_method_8_code
def yX11_isSheet : MethodName := ⟨RX11, "isSheet", "(I)Z"⟩
abbrev cX11_sheet : ByteArray := prog_13_method_9_code
def yX11_sheet : MethodName := ⟨RX11, "sheet", "(III)I"⟩
abbrev cX11_lose : ByteArray := prog_13_method_10_code
def yX11_lose : MethodName := ⟨RX11, "lose", "(I)I"⟩
abbrev cX11_lacks : ByteArray := prog_13_method_11_code
def yX11_lacks : MethodName := ⟨RX11, "lacks", "(III)I"⟩
abbrev cX11_cut : ByteArray := prog_13_method_12_code
def yX11_cut : MethodName := ⟨RX11, "cut", "(II)I"⟩
abbrev cX11_lay : ByteArray := prog_13_method_13_code
def yX11_lay : MethodName := ⟨RX11, "lay", "(IIII)I"⟩
abbrev cX11_get : ByteArray := prog_13_method_14_code
def yX11_get : MethodName := ⟨RX11, "get", "(III)I"⟩
abbrev cX11_copy : ByteArray := prog_13_method_15_code
def yX11_copy : MethodName := ⟨RX11, "copy", "(IIIII)I"⟩
abbrev cX11_isText : ByteArray := prog_13_method_16_code
def yX11_isText : MethodName := ⟨RX11, "isText", "(I)Z"⟩
abbrev cX11_isWay : ByteArray := prog_13_method_17_code
def yX11_isWay : MethodName := ⟨RX11, "isWay", "(I)Z"⟩
abbrev cX11_from : ByteArray := prog_13_method_18_code
def yX11_from : MethodName := ⟨RX11, "from", "(I)I"⟩
abbrev cX11_type : ByteArray := prog_13_method_19_code
def yX11_type : MethodName := ⟨RX11, "type", "(II)I"⟩
abbrev cX11_wipe : ByteArray := prog_13_method_20_code
def yX11_wipe : MethodName := ⟨RX11, "wipe", "(I)I"⟩
abbrev cX11_here : ByteArray := prog_13_method_21_code
def yX11_here : MethodName := ⟨RX11, "here", "()I"⟩
abbrev cX11_clears : ByteArray := prog_13_method_22_code
def yX11_clears : MethodName := ⟨RX11, "clears", "()V"⟩
abbrev cX11_readsRoom : ByteArray := prog_13_method_23_code
def yX11_readsRoom : MethodName := ⟨RX11, "readsRoom", "()Z"⟩
abbrev cX11_readsPart : ByteArray := prog_13_method_24_code
def yX11_readsPart : MethodName := ⟨RX11, "readsPart", "()Z"⟩
abbrev cX11_readsLand : ByteArray := prog_13_method_25_code
def yX11_readsLand : MethodName := ⟨RX11, "readsLand", "()I"⟩
abbrev cX11_letterOf : ByteArray := prog_13_method_26_code
def yX11_letterOf : MethodName := ⟨RX11, "letterOf", "(I)I"⟩
abbrev cX11_byteOf : ByteArray := prog_13_method_27_code
def yX11_byteOf : MethodName := ⟨RX11, "byteOf", "(I)I"⟩
abbrev cX11_faultOf : ByteArray := prog_13_method_28_code
def yX11_faultOf : MethodName := ⟨RX11, "faultOf", "(I)I"⟩
abbrev cX11_fault : ByteArray := prog_13_method_29_code
def yX11_fault : MethodName := ⟨RX11, "fault", "(I)I"⟩
abbrev cX11_start : ByteArray := prog_13_method_30_code
def yX11_start : MethodName := ⟨RX11, "start", "(I)I"⟩
abbrev cX11_end : ByteArray := prog_13_method_31_code
def yX11_end : MethodName := ⟨RX11, "end", "(I)I"⟩
abbrev cX11_back : ByteArray := prog_13_method_32_code
def yX11_back : MethodName := ⟨RX11, "back", "(I)I"⟩
abbrev cX11_isShut : ByteArray := prog_13_method_33_code
def yX11_isShut : MethodName := ⟨RX11, "isShut", "(I)Z"⟩
abbrev cX11_gate : ByteArray := prog_13_method_34_code
def yX11_gate : MethodName := ⟨RX11, "gate", "(II)I"⟩
abbrev cX11_room : ByteArray := prog_13_method_35_code
def yX11_room : MethodName := ⟨RX11, "room", "()I"⟩
abbrev cX11_shut : ByteArray := prog_13_method_36_code
def yX11_shut : MethodName := ⟨RX11, "shut", "(I)I"⟩
abbrev cX11_stamp : ByteArray := prog_13_method_37_code
def yX11_stamp : MethodName := ⟨RX11, "stamp", "(II)V"⟩
abbrev cX11_lengthOf : ByteArray := prog_13_method_38_code
def yX11_lengthOf : MethodName := ⟨RX11, "lengthOf", "(I)I"⟩
abbrev cX11_letterAt : ByteArray := prog_13_method_39_code
def yX11_letterAt : MethodName := ⟨RX11, "letterAt", "(II)I"⟩
abbrev cX11_findPaper : ByteArray := prog_13_method_40_code
def yX11_findPaper : MethodName := ⟨RX11, "findPaper", "(II)V"⟩
abbrev cX11_paper : ByteArray := prog_13_method_41_code
def yX11_paper : MethodName := ⟨RX11, "paper", "(II)I"⟩
abbrev cX11_isBegun : ByteArray := prog_13_method_42_code
def yX11_isBegun : MethodName := ⟨RX11, "isBegun", "(I)Z"⟩
abbrev cX11_judgedOf : ByteArray := prog_13_method_43_code
def yX11_judgedOf : MethodName := ⟨RX11, "judgedOf", "(IIII)I"⟩
abbrev cX11_judged : ByteArray := prog_13_method_44_code
def yX11_judged : MethodName := ⟨RX11, "judged", "(IIII)I"⟩
abbrev cX11_alike : ByteArray := prog_13_method_45_code
def yX11_alike : MethodName := ⟨RX11, "alike", "()I"⟩
abbrev cX11_sameOf : ByteArray := prog_13_method_46_code
def yX11_sameOf : MethodName := ⟨RX11, "sameOf", "(II)I"⟩
abbrev cX11_same : ByteArray := prog_13_method_47_code
def yX11_same : MethodName := ⟨RX11, "same", "(II)I"⟩
abbrev cX11_isUnseen : ByteArray := prog_13_method_48_code
def yX11_isUnseen : MethodName := ⟨RX11, "isUnseen", "(I)Z"⟩
abbrev cX11_findUnseen : ByteArray := prog_13_method_49_code
def yX11_findUnseen : MethodName := ⟨RX11, "findUnseen", "()V"⟩
abbrev cX11_findBetween : ByteArray := prog_13_method_50_code
def yX11_findBetween : MethodName := ⟨RX11, "findBetween", "()V"⟩
abbrev cX11_findShortest : ByteArray := prog_13_method_51_code
def yX11_findShortest : MethodName := ⟨RX11, "findShortest", "(IIII)V"⟩
abbrev cX11_goesOn : ByteArray := prog_13_method_52_code
def yX11_goesOn : MethodName := ⟨RX11, "goesOn", "(II)V"⟩
abbrev cX11_shortestOf : ByteArray := prog_13_method_53_code
def yX11_shortestOf : MethodName := ⟨RX11, "shortestOf", "(IIIII)J"⟩
abbrev cX11_isAsked : ByteArray := prog_13_method_54_code
def yX11_isAsked : MethodName := ⟨RX11, "isAsked", "(IIII)Z"⟩
abbrev cX11_shortest : ByteArray := prog_13_method_55_code
def yX11_shortest : MethodName := ⟨RX11, "shortest", "(IIIII)J"⟩
abbrev cX11_leastUnseen : ByteArray := prog_13_method_56_code
def yX11_leastUnseen : MethodName := ⟨RX11, "leastUnseen", "(II)I"⟩
abbrev cX11_letter : ByteArray := prog_13_method_57_code
def yX11_letter : MethodName := ⟨RX11, "letter", "(IIIII)I"⟩
abbrev cX11_findErrands : ByteArray := prog_13_method_58_code
def yX11_findErrands : MethodName := ⟨RX11, "findErrands", "(I)V"⟩
abbrev cX11_stampsTo : ByteArray := prog_13_method_59_code
def yX11_stampsTo : MethodName := ⟨RX11, "stampsTo", "(I)I"⟩
abbrev cX11_errandsOf : ByteArray := prog_13_method_60_code
def yX11_errandsOf : MethodName := ⟨RX11, "errandsOf", "(III)I"⟩
abbrev cX11_errands : ByteArray := prog_13_method_61_code
def yX11_errands : MethodName := ⟨RX11, "errands", "(III)I"⟩
abbrev cX11_cleanOf : ByteArray := prog_13_method_62_code
def yX11_cleanOf : MethodName := ⟨RX11, "cleanOf", "(I)I"⟩
abbrev cX11_clean : ByteArray := prog_13_method_63_code
def yX11_clean : MethodName := ⟨RX11, "clean", "(I)I"⟩
abbrev cX11_foundOf : ByteArray := prog_13_method_64_code
def yX11_foundOf : MethodName := ⟨RX11, "foundOf", "(II)I"⟩
abbrev cX11_found : ByteArray := prog_13_method_65_code
def yX11_found : MethodName := ⟨RX11, "found", "(II)I"⟩
abbrev cX11_index : ByteArray := prog_13_method_66_code
def yX11_index : MethodName := ⟨RX11, "index", "(IIII)I"⟩
abbrev cX11_findClosed : ByteArray := prog_13_method_67_code
def yX11_findClosed : MethodName := ⟨RX11, "findClosed", "(I)V"⟩
abbrev cX11_closedBy : ByteArray := prog_13_method_68_code
def yX11_closedBy : MethodName := ⟨RX11, "closedBy", "(IIIII)J"⟩
abbrev cX11_follows : ByteArray := prog_13_method_69_code
def yX11_follows : MethodName := ⟨RX11, "follows", "(IIII)V"⟩
abbrev cX11_manyOf : ByteArray := prog_13_method_70_code
def yX11_manyOf : MethodName := ⟨RX11, "manyOf", "(IIII)J"⟩
abbrev cX11_many : ByteArray := prog_13_method_71_code
def yX11_many : MethodName := ⟨RX11, "many", "(IIII)J"⟩
abbrev cX11_lists : ByteArray := prog_13_method_72_code
def yX11_lists : MethodName := ⟨RX11, "lists", "(Z)I"⟩
abbrev cX11_list : ByteArray := prog_13_method_73_code
def yX11_list : MethodName := ⟨RX11, "list", "(II)I"⟩
abbrev cX11_read : ByteArray := prog_13_method_74_code
def yX11_read : MethodName := ⟨RX11, "read", "(I)I"⟩
abbrev cX11_unlist : ByteArray := prog_13_method_75_code
def yX11_unlist : MethodName := ⟨RX11, "unlist", "()I"⟩
abbrev cX11_listedAt : ByteArray := prog_13_method_76_code
def yX11_listedAt : MethodName := ⟨RX11, "listedAt", "(II)I"⟩
abbrev cX11_listed : ByteArray := prog_13_method_77_code
def yX11_listed : MethodName := ⟨RX11, "listed", "(II)I"⟩
abbrev cX11_letsBy : ByteArray := prog_13_method_78_code
def yX11_letsBy : MethodName := ⟨RX11, "letsBy", "(I)Z"⟩
abbrev cX11_arePlaces : ByteArray := prog_13_method_79_code
def yX11_arePlaces : MethodName := ⟨RX11, "arePlaces", "(I)Z"⟩
abbrev cX11_lets : ByteArray := prog_13_method_80_code
def yX11_lets : MethodName := ⟨RX11, "lets", "(II)I"⟩
abbrev cX11_slipsOf : ByteArray := prog_13_method_81_code
def yX11_slipsOf : MethodName := ⟨RX11, "slipsOf", "(I)I"⟩
abbrev cX11_slips : ByteArray := prog_13_method_82_code
def yX11_slips : MethodName := ⟨RX11, "slips", "(I)I"⟩
abbrev cX11_ones : ByteArray := prog_13_method_83_code
def yX11_ones : MethodName := ⟨RX11, "ones", "(I)I"⟩
abbrev cX11_fewestNow : ByteArray := prog_13_method_84_code
def yX11_fewestNow : MethodName := ⟨RX11, "fewestNow", "()I"⟩
abbrev cX11_fewest : ByteArray := prog_13_method_85_code
def yX11_fewest : MethodName := ⟨RX11, "fewest", "()I"⟩
abbrev cX11_findFar : ByteArray := prog_13_method_86_code
def yX11_findFar : MethodName := ⟨RX11, "findFar", "(III)V"⟩
abbrev cX11_joins : ByteArray := prog_13_method_87_code
def yX11_joins : MethodName := ⟨RX11, "joins", "(II)V"⟩
abbrev cX11_farOf : ByteArray := prog_13_method_88_code
def yX11_farOf : MethodName := ⟨RX11, "farOf", "(II)I"⟩
abbrev cX11_far : ByteArray := prog_13_method_89_code
def yX11_far : MethodName := ⟨RX11, "far", "(II)I"⟩
abbrev cX11_changed : ByteArray := prog_13_method_90_code
def yX11_changed : MethodName := ⟨RX11, "changed", "(IIII)I"⟩
abbrev cX11_without : ByteArray := prog_13_method_91_code
def yX11_without : MethodName := ⟨RX11, "without", "(II)I"⟩
abbrev cX11_with : ByteArray := prog_13_method_92_code
def yX11_with : MethodName := ⟨RX11, "with", "(III)I"⟩
abbrev cX11_write : ByteArray := prog_13_method_93_code
def yX11_write : MethodName := ⟨RX11, "write", "(II)I"⟩
abbrev cX11_count : ByteArray := prog_13_method_94_code
def yX11_count : MethodName := ⟨RX11, "count", "(I)I"⟩
abbrev cX11_digest : ByteArray := prog_13_method_95_code
def yX11_digest : MethodName := ⟨RX11, "digest", "()J"⟩
def RJ6 : String := "java/lang/Integer"
def TJ6 : u_T := fun k => match k with
  | _ => ("", "", "", false)
def tyJ6 : Nat → FieldType := fun k => match k with
  | _ => .int
abbrev wsJ60 : List Cond := u_ws RJ6 TJ6 0
theorem nmJ6 : ∀ a, a < 0 → ∀ b, b < 0 → a ≠ b → (TJ6 a).2.1 ≠ (TJ6 b).2.1 := by decide +kernel
theorem tyJ6_ok : ∀ k, k < 0 → parseFieldDescriptor (TJ6 k).2.2.1 = some (tyJ6 k) := by decide +kernel
abbrev cJ6_bitCount_0f7a4 : ByteArray := prog_14_method_49_code
def yJ6_bitCount_0f7a4 : MethodName := ⟨RJ6, "bitCount", "(I)I"⟩
def RJ9 : String := "java/lang/Math"
def TJ9 : u_T := fun k => match k with
  | _ => ("", "", "", false)
def tyJ9 : Nat → FieldType := fun k => match k with
  | _ => .int
abbrev wsJ90 : List Cond := u_ws RJ9 TJ9 0
theorem nmJ9 : ∀ a, a < 0 → ∀ b, b < 0 → a ≠ b → (TJ9 a).2.1 ≠ (TJ9 b).2.1 := by decide +kernel
theorem tyJ9_ok : ∀ k, k < 0 → parseFieldDescriptor (TJ9 k).2.2.1 = some (tyJ9 k) := by decide +kernel
abbrev cJ9_abs_0f7a4 : ByteArray := prog_15_method_59_code
def yJ9_abs_0f7a4 : MethodName := ⟨RJ9, "abs", "(I)I"⟩
abbrev cJ9_max_7cf53 : ByteArray := prog_15_method_65_code
def yJ9_max_7cf53 : MethodName := ⟨RJ9, "max", "(II)I"⟩
abbrev cJ9_min_7cf53 : ByteArray := prog_15_method_69_code
def yJ9_min_7cf53 : MethodName := ⟨RJ9, "min", "(II)I"⟩
def RJ10 : String := "java/lang/System"
def TJ10 : u_T := fun k => match k with
  | _ => ("", "", "", false)
def tyJ10 : Nat → FieldType := fun k => match k with
  | _ => .int
abbrev wsJ100 : List Cond := u_ws RJ10 TJ10 0
theorem nmJ10 : ∀ a, a < 0 → ∀ b, b < 0 → a ≠ b → (TJ10 a).2.1 ≠ (TJ10 b).2.1 := by decide +kernel
theorem tyJ10_ok : ∀ k, k < 0 → parseFieldDescriptor (TJ10 k).2.2.1 = some (tyJ10 k) := by decide +kernel
def RJ7 : String := "java/util/Arrays"
def TJ7 : u_T := fun k => match k with
  | _ => ("", "", "", false)
def tyJ7 : Nat → FieldType := fun k => match k with
  | _ => .int
abbrev wsJ70 : List Cond := u_ws RJ7 TJ7 0
theorem nmJ7 : ∀ a, a < 0 → ∀ b, b < 0 → a ≠ b → (TJ7 a).2.1 ≠ (TJ7 b).2.1 := by decide +kernel
theorem tyJ7_ok : ∀ k, k < 0 → parseFieldDescriptor (TJ7 k).2.2.1 = some (tyJ7 k) := by decide +kernel
abbrev cJ7_fill_d0a16 : ByteArray := prog_17_method_101_code
def yJ7_fill_d0a16 : MethodName := ⟨RJ7, "fill", "([JJ)V"⟩
abbrev cJ7_fill_53178 : ByteArray := prog_17_method_103_code
def yJ7_fill_53178 : MethodName := ⟨RJ7, "fill", "([II)V"⟩
def RL : String := "StampsCancelLaw"
abbrev cL_law : ByteArray := code
def yL_law : MethodName := ⟨RL, "law", "([I)Z"⟩
end
section
/-! The world as one memory. Every cell that the two constructors make has a number (in the order of making); what a cell is, how long it is and where its references lead never changes afterwards. So a state of both objects is a memory: ints by cell and place, longs by cell and place. -/
abbrev MT : Type := MethodName × ByteArray × Nat × Option FieldType × Nat × Nat
abbrev Mem : Type := (Nat → Nat → Int32) × (Nat → Nat → Int64)
abbrev EV : Type := Launch × va_G × (Nat → ClassId) × Nat
def tbG : List Cond := lw_tbl.filter goodWord
theorem tb_mem {w : Cond} (h : w ∈ lw_tbl) (g : goodWord w = true) : w ∈ tbG := List.mem_filter.mpr ⟨h, g⟩
theorem tb_at (i : Nat) {w : Cond} (h : tables_1[i]? = some w) (g : goodWord w = true) : w ∈ tbG := tb_mem (List.mem_append_right _ (List.mem_of_getElem? h)) g
theorem tb_ps (i : Nat) {w : Cond} (h : (k2_sels lw_privs)[i]? = some w) (g : goodWord w = true) : w ∈ tbG := tb_mem (List.mem_append_left _ (List.mem_of_getElem? h)) g
theorem tb_good {w : Cond} (h : w ∈ tbG) : (w.onTables && w.keeps) = true ∨ ∃ ty, w = .arrayClass ty := good_of_word (List.mem_filter.mp h).2
theorem tb_in : GoodIn tbG tbG := fun w h => ⟨h, tb_good h⟩
theorem tb_places {ws : List Cond} (ps : List Nat) (hp : ws = ps.filterMap (fun i => tables_1[i]?)) (g : ws.all goodWord = true) : ∀ w ∈ ws, w ∈ tbG := by
  intro w hw
  have h1 := List.all_eq_true.mp g w hw
  rw [hp] at hw
  obtain ⟨i, -, hi⟩ := List.mem_filterMap.mp hw
  exact tb_at i hi h1
def mws (M : MT) : List Cond := Cond.code M.1 M.2.1 M.2.2.1 M.2.2.2.1 :: tbG
def mrm (M : MT) : Room := { frames := M.2.2.2.2.1, cells := 0, slots := 0, locals := M.2.2.2.2.2 }
theorem mws_good {M : MT} (h : Cond.code M.1 M.2.1 M.2.2.1 M.2.2.2.1 ∈ tbG) : GoodIn tbG (mws M) := fun w hw => by
  rcases List.mem_cons.mp hw with rfl | h2
  · exact ⟨h, tb_good h⟩
  · exact tb_in w h2
def shp : List (Nat × Nat × List Nat) := [(10, 12, [1, 3, 4, 6, 8, 11, 27, 42, 78, 83, 95, 107]), (3, 6, [2, 0, 0, 0, 0, 0]), (20, 18, []), (23, 4, []), (5, 2, [5, 0]), (20, 60, []), (5, 2, [7, 0]), (20, 60, []), (2, 6, [1, 9, 0, 0, 0, 0]), (5, 2, [10, 0]), (20, 60, []), (6, 6, [1, 12, 24, 0, 25, 26]), (0, 3, [13, 22, 23]), (24, 8, []), (20, 8, []), (20, 8, []), (20, 8, []), (20, 8, []), (20, 8, []), (20, 8, []), (20, 8, []), (20, 8, []), (20, 8, []), (20, 8, []), (20, 120, []), (21, 8, []), (21, 8, []), (1, 4, [1, 28, 40, 41]), (0, 3, [29, 38, 39]), (24, 8, []), (20, 8, []), (20, 8, []), (20, 8, []), (20, 8, []), (20, 8, []), (20, 8, []), (20, 8, []), (20, 8, []), (20, 8, []), (20, 8, []), (20, 8, []), (20, 8, []), (9, 7, [1, 43, 55, 56, 75, 76, 77]), (0, 3, [44, 53, 54]), (24, 8, []), (20, 8, []), (20, 8, []), (20, 8, []), (20, 8, []), (20, 8, []), (20, 8, []), (20, 8, []), (20, 8, []), (20, 8, []), (20, 8, []), (20, 8, []), (25, 18, []), (21, 104, []), (21, 104, []), (21, 104, []), (21, 104, []), (21, 104, []), (21, 104, []), (21, 104, []), (21, 104, []), (21, 104, []), (21, 104, []), (21, 104, []), (21, 104, []), (21, 104, []), (21, 104, []), (21, 104, []), (21, 104, []), (21, 104, []), (21, 104, []), (21, 104, []), (21, 104, []), (21, 13, []), (4, 5, [79, 80, 81, 82, 0]), (20, 132, []), (20, 12, []), (20, 12, []), (20, 144, []), (0, 3, [84, 93, 94]), (24, 8, []), (20, 8, []), (20, 8, []), (20, 8, []), (20, 8, []), (20, 8, []), (20, 8, []), (20, 8, []), (20, 8, []), (20, 8, []), (20, 8, []), (0, 3, [96, 105, 106]), (24, 8, []), (20, 8, []), (20, 8, []), (20, 8, []), (20, 8, []), (20, 8, []), (20, 8, []), (20, 8, []), (20, 8, []), (20, 8, []), (20, 8, []), (7, 4, [108, 113, 114, 0]), (24, 4, []), (20, 60, []), (20, 60, []), (20, 60, []), (20, 60, []), (20, 4, []), (20, 4, []), (8, 3, [116, 0, 0]), (20, 50, []), (8, 3, [118, 0, 0]), (20, 50, []), (8, 3, [120, 0, 0]), (20, 50, []), (8, 3, [122, 0, 0]), (20, 50, []), (11, 35, [124, 125, 126, 127, 0, 128, 129, 0, 0, 130, 131, 132, 0, 0, 133, 134, 0, 135, 136, 137, 0, 0, 0, 0, 138, 139, 140, 141, 0, 142, 143, 144, 145, 146, 147]), (20, 4, []), (20, 4, []), (20, 240, []), (20, 60, []), (20, 140, []), (20, 4, []), (20, 9, []), (20, 9, []), (22, 9, []), (20, 120, []), (20, 2, []), (20, 64, []), (21, 64, []), (20, 120, []), (20, 96, []), (21, 15808, []), (21, 13, []), (21, 13, []), (20, 720, []), (20, 12, []), (22, 12, []), (20, 11, []), (20, 64, []), (20, 64, [])]
def NC : Nat := 148
def kd (o : Nat) : Nat := (shp.getD o (99, 0, [])).1
def ln (o : Nat) : Nat := (shp.getD o (99, 0, [])).2.1
def rf (o k : Nat) : Nat := if kd o = 23 then 115 + 2 * k else if kd o < 23 then (shp.getD o (99, 0, [])).2.2.getD k 0 else o + 1 + k
def ftys : List (List Nat) := [[1, 1, 1], [1, 1, 1, 1], [1, 1, 0, 0, 0, 0], [1, 0, 0, 0, 0, 0], [1, 1, 1, 1, 0], [1, 0], [1, 1, 1, 0, 1, 1], [1, 1, 1, 0], [1, 0, 0], [1, 1, 1, 1, 1, 1, 1], [1, 1, 1, 1, 1, 1, 1, 1, 1, 1, 1, 1], [1, 1, 1, 1, 0, 1, 1, 0, 0, 1, 1, 1, 0, 0, 1, 1, 0, 1, 1, 1, 0, 0, 2, 3, 1, 1, 1, 1, 0, 1, 1, 1, 1, 1, 1]]
abbrev classes : List vw_C := [(RX0, TX0, 3), (RX1, TX1, 4), (RX2, TX2, 6), (RX3, TX3, 6), (RX4, TX4, 5), (RX5, TX5, 2), (RX6, TX6, 6), (RX7, TX7, 4), (RX8, TX8, 3), (RX9, TX9, 7), (RX10, TX10, 12), (RX11, TX11, 35)]
def ft (c k : Nat) : Nat := (ftys.getD c []).getD k 0
/-- a value with its cell's number for its address -/
def sh (sz : Nat) (v : Value) : Value := match v with
  | .ref a => .ref (sz + a)
  | w => w
def shl (sz : Nat) (q : Nat × Value) : Nat × Value := (q.1, sh sz q.2)
/-- what a field holds -/
def fp (μ : Mem) (o k : Nat) : Value := if ft (kd o) k = 1 then .ref (rf o k) else if ft (kd o) k = 2 then .long (μ.2 o k) else .int (μ.1 o k)
def ce (E : EV) (μ : Mem) (o : Nat) : va_E :=
  if kd o < 20 then .inr (kd o, (List.range (ln o)).map (fun k => sh E.2.2.2 (fp μ o k)))
  else .inl (E.2.2.1 (kd o), ln o, if kd o = 21 then .inr (.inl (μ.2 o)) else if kd o < 23 then .inl (μ.1 o) else .inr (.inr (.inr (.inr (fun j => some (E.2.2.2 + rf o j))))))
def wd (E : EV) (μ : Mem) : va_W := (List.range NC).map (fun o => (E.2.2.2 + o, ce E μ o))
abbrev tys (E : EV) : List (ClassId × FieldType) := [(E.2.2.1 20, .int), (E.2.2.1 21, .long), (E.2.2.1 22, .boolean), (E.2.2.1 23, .object "StampsCancel$Text"), (E.2.2.1 24, .array .int), (E.2.2.1 25, .array .long)]
def nw (s : State) : Prop := va_Nw (.methodLinkNest RX0 35 yX10_isTown RX10) s ∧ va_Nw (.methodLinkNest RX6 96 yX10_isTown RX10) s ∧ va_Nw (.methodLinkNest RX9 47 yX10_isTown RX10) s
theorem nw_warm {s U : State} (hW : s.WarmedH U.vm) (h : nw s) : nw U := ⟨va_Nw.warmM hW h.1, va_Nw.warmM hW h.2.1, va_Nw.warmM hW h.2.2⟩
theorem nw_same {s U : State} (hW : s.vm = U.vm) (h : nw s) : nw U := ⟨va_Nw.same rfl hW h.1, va_Nw.same rfl hW h.2.1, va_Nw.same rfl hW h.2.2⟩
/-- one int, one long of the memory becomes another -/
def mI (μ : Mem) (o k : Nat) (x : Int32) : Mem := (fun a b => if a = o ∧ b = k then x else μ.1 a b, μ.2)
def mJ (μ : Mem) (o k : Nat) (x : Int64) : Mem := (μ.1, fun a b => if a = o ∧ b = k then x else μ.2 a b)
theorem kd_lt {o : Nat} (h : kd o ≠ 99) : o < NC := by
  rcases Nat.lt_or_ge o NC with q | q
  · exact q
  · refine absurd ?_ h
    unfold kd
    rw [List.getD_eq_getElem?_getD, List.getElem?_eq_none (by exact q)]
    rfl
theorem kd_lt20 {o : Nat} (h : kd o < 30) : o < NC := kd_lt (by omega)
theorem wd_get {E : EV} {μ : Mem} {o : Nat} (h : o < NC) : (wd E μ)[o]? = some (E.2.2.2 + o, ce E μ o) := by
  unfold wd
  rw [List.getElem?_map, List.getElem?_range h]
  rfl
theorem wd_D (E : EV) (μ : Mem) : va_D (fun q => E.2.2.2 ≤ q) (wd E μ) := by
  refine ⟨fun i j p q hi hj hpq => ?_, fun k q hk => ?_⟩
  · have li : i < NC := by
      have := (List.getElem?_eq_some_iff.mp hi).1
      simpa [wd] using this
    have lj : j < NC := by
      have := (List.getElem?_eq_some_iff.mp hj).1
      simpa [wd] using this
    rw [wd_get li] at hi
    rw [wd_get lj] at hj
    cases hi
    cases hj
    have : E.2.2.2 + i = E.2.2.2 + j := hpq
    omega
  · have lk : k < NC := by
      have := (List.getElem?_eq_some_iff.mp hk).1
      simpa [wd] using this
    rw [wd_get lk] at hk
    cases hk
    exact Nat.le_add_right _ _
theorem wd_set {E : EV} {μ ν : Mem} {o : Nat} {x : va_E} (h : o < NC) (hx : ce E ν o = x) (hn : ∀ a, a ≠ o → ce E ν a = ce E μ a) : (wd E μ).set o (E.2.2.2 + o, x) = wd E ν := by
  apply List.ext_getElem?
  intro i
  rw [List.getElem?_set]
  by_cases e : o = i
  · subst e
    rw [if_pos rfl, if_pos (by simpa [wd] using h), wd_get h, hx]
  · rw [if_neg e]
    unfold wd
    rw [List.getElem?_map, List.getElem?_map]
    by_cases l : i < NC
    · rw [List.getElem?_range l]
      show some (E.2.2.2 + i, ce E μ i) = some (E.2.2.2 + i, ce E ν i)
      rw [hn i (fun q => e q.symm)]
    · rw [List.getElem?_eq_none (by simpa using l)]
      rfl
theorem mI_ne {μ : Mem} {o k : Nat} {x : Int32} {a : Nat} (h : a ≠ o) : (mI μ o k x).1 a = μ.1 a := by
  funext b
  simp [mI, h]
theorem mJ_ne {μ : Mem} {o k : Nat} {x : Int64} {a : Nat} (h : a ≠ o) : (mJ μ o k x).2 a = μ.2 a := by
  funext b
  simp [mJ, h]
theorem ce_congr {E : EV} {μ ν : Mem} {a : Nat} (h1 : ν.1 a = μ.1 a) (h2 : ν.2 a = μ.2 a) : ce E ν a = ce E μ a := by
  unfold ce fp
  rw [h1, h2]
theorem ce_mI {E : EV} {μ : Mem} {o k : Nat} {x : Int32} {a : Nat} (h : a ≠ o) : ce E (mI μ o k x) a = ce E μ a := ce_congr (mI_ne h) rfl
theorem ce_mJ {E : EV} {μ : Mem} {o k : Nat} {x : Int64} {a : Nat} (h : a ≠ o) : ce E (mJ μ o k x) a = ce E μ a := ce_congr rfl (mJ_ne h)
/-- what a method's body stands on -/
def Cx (E : EV) (M : MT) (p : Program) (s : State) (m : MethodId) (args : Array Value) (meth : Method) (c : Code) : Prop :=
  p.tables.exec = Jvm.exec ∧ c.code = M.2.1 ∧ meth.sig.returnType = M.2.2.2.1 ∧ c.maxLocals = M.2.2.1 ∧ s.vm.findClass M.1.cls = some m.cls ∧ (∀ w ∈ tbG, w.before args s = true) ∧ meth.locks = false ∧ va_K E.2.1 classes (tys E) s ∧ nw s
abbrev Po : Type := Option Value → Mem → Prop
abbrev Fz (E : EV) : Nat → Prop := fun q => E.2.2.2 ≤ q
def Qd (E : EV) (Q : Po) : Array Value → State → Outcome → State → Prop := fun _ st o t => (∃ (v : Option Value) (ν : Mem), o = .returned (v.map (sh E.2.2.2)) ∧ Q v ν ∧ va_P E.2.1 classes (wd E ν) t.heap) ∧ va_F (Fz E) st t
/-- from this place of the body, with these locals, this stack and this memory, the method comes to its end, and Q holds of its answer and of the memory then -/
def Ex (E : EV) (M : MT) (Q : Po) (pc : Nat) (ls : List (Nat × Value)) (st : List Value) (μ : Mem) : Prop :=
  ∀ (p : Program) (e : Env) (s : State) (m : MethodId) (args : Array Value) (below : List Frame) (meth : Method) (c : Code), Cx E M p s m args meth c →
    ∀ (H : Heap) (locs : List Loc) (lr : Array Slot), lv_has lr M.2.2.1 (ls.map (shl E.2.2.2)) → va_P E.2.1 classes (wd E μ) H → va_S (Fz E) s.heap H locs →
      W p E.1 e (mrm M) s m args below meth c H locs 0 0 (MQ below (Qd E Q) args s 0 0 (Fz E)) (F0 m pc lr (st.map (sh E.2.2.2)))
/-- a method's contract: with these arguments and this memory it ends, and Q holds -/
def Sp (E : EV) (M : MT) (as : List Value) (μ : Mem) (Q : Po) : Prop :=
  Met E.1 M.1 (mws M) (mrm M) (va_Pc (as.map (sh E.2.2.2)) (fun U => va_P E.2.1 classes (wd E μ) U.heap ∧ va_K E.2.1 classes (tys E) U ∧ nw U)) (Qd E Q) 0 0 (Fz E)
theorem sh_cat (sz : Nat) (v : Value) : (sh sz v).category = v.category := by cases v <;> rfl
theorem lv_args_sh (sz : Nat) : ∀ (as : List Value) (i : Nat), lv_args i (as.map (sh sz)) = (lv_args i as).map (shl sz)
  | [], _ => rfl
  | v :: as, i => by
    show (i, sh sz v) :: lv_args (if (sh sz v).category = 2 then i + 2 else i + 1) (as.map (sh sz)) = (i, sh sz v) :: (lv_args (if v.category = 2 then i + 2 else i + 1) as).map (shl sz)
    rw [sh_cat, lv_args_sh sz as]
theorem lg_sl_len (sz : Nat) : ∀ as : List Value, (lg_sl (as.map (sh sz))).length = (lg_sl as).length
  | [] => rfl
  | v :: as => by
    have h := lg_sl_len sz as
    unfold lg_sl at h ⊢
    rw [List.map_cons, List.flatMap_cons, List.flatMap_cons, List.length_append, List.length_append, h, sh_cat]
    by_cases q : v.category = 2 <;> simp [q]
theorem Sp.of {E : EV} {M : MT} {as : List Value} {μ : Mem} {Q : Po} (hy : plainName M.1.cls = true) (hn : (lg_sl as).length ≤ M.2.2.1) {ls : List (Nat × Value)} (hl : lv_args 0 as = ls) (h : Ex E M Q 0 ls [] μ) : Sp E M as μ Q := by
  refine Met.ofW (cc := M.2.1) (maxL := M.2.2.1) (ret := M.2.2.2.1) hy rfl ?_
  intro p e s m args below meth c s₁ B hml hv
  obtain ⟨rfl, hP, hK, hN⟩ := hv
  have hts := atoms_spec (ws := mws M) B.pre
  have hown : s.vm.findClass M.1.cls = some m.cls := findClass_of_methodNamed B.named
  subst hl
  have he := lv_entry (as.map (sh E.2.2.2)) (n := M.2.2.1) (by rw [lg_sl_len]; exact hn)
  rw [lv_args_sh] at he
  rw [lg_entry_eq]
  exact h p e s m _ below meth c ⟨B.exec, B.bytes, B.returns, hml, hown, fun w hw => hts w (List.mem_cons_of_mem _ hw), B.notSynchronized, hK, hN⟩ s.heap [] _ he hP va_S.rf
theorem MQ.mono {E : EV} {below : List Frame} {Q Q' : Po} {a : Array Value} {s t : State} (h : ∀ v ν, Q v ν → Q' v ν) (hq : MQ below (Qd E Q) a s 0 0 (Fz E) t) : MQ below (Qd E Q') a s 0 0 (Fz E) t := by
  obtain ⟨o, h1, h2, ⟨⟨v, ν, h3, h4, h5⟩, h6⟩, h7⟩ := hq
  exact ⟨o, h1, h2, ⟨⟨v, ν, h3, h v ν h4, h5⟩, h6⟩, h7⟩
theorem Ex.mono {E : EV} {M : MT} {Q Q' : Po} {pc : Nat} {ls : List (Nat × Value)} {st : List Value} {μ : Mem} (h : ∀ v ν, Q v ν → Q' v ν) (k : Ex E M Q pc ls st μ) : Ex E M Q' pc ls st μ := by
  intro p e s m args below meth c hc H locs lr hl hP hS T hT X
  obtain ⟨t, a, b⟩ := k p e s m args below meth c hc H locs lr hl hP hS T hT X
  exact ⟨t, a, MQ.mono h b⟩
theorem Sp.mono {E : EV} {M : MT} {as : List Value} {μ : Mem} {Q Q' : Po} (k : Sp E M as μ Q) (h : ∀ v ν, Q v ν → Q' v ν) : Sp E M as μ Q' := by
  intro p e ha hc hk s m args below hf happ hP hT
  obtain ⟨t, o, h1, h2, h3, ⟨⟨v, ν, q1, q2, q3⟩, q4⟩, h5⟩ := k p e ha hc hk s m args below hf happ hP hT
  exact ⟨t, o, h1, h2, h3, ⟨⟨v, ν, q1, h v ν q2, q3⟩, q4⟩, h5⟩
end
section
section XR
variable {E : EV} {M : MT} {Q : Po} {pc : Nat} {ls : List (Nat × Value)} {st : List Value} {μ : Mem}
theorem x_iconst {n : Int} {v : Int32} (hv : Int32.ofInt n = v) (hd : decode M.2.1 pc = .ok (.iconst n, 1)) (k : Ex E M Q (pc + 1) ls (.int v :: st) μ) : Ex E M Q pc ls (st) μ := by
  intro p e s m args below meth c hc H locs lr hl hP hS
  exact lv_iconst hc.1 hc.2.1 hd hv (k p e s m args below meth c hc H locs lr hl hP hS)
theorem x_bipush {n : Int} {v : Int32} (hv : (Int8.ofInt n).toInt32 = v) (hd : decode M.2.1 pc = .ok (.bipush n, 2)) (k : Ex E M Q (pc + 2) ls (.int v :: st) μ) : Ex E M Q pc ls (st) μ := by
  intro p e s m args below meth c hc H locs lr hl hP hS
  exact lv_bipush hc.1 hc.2.1 hd hv (k p e s m args below meth c hc H locs lr hl hP hS)
theorem x_sipush {n : Int} {v : Int32} (hv : (Int16.ofInt n).toInt32 = v) (hd : decode M.2.1 pc = .ok (.sipush n, 3)) (k : Ex E M Q (pc + 3) ls (.int v :: st) μ) : Ex E M Q pc ls (st) μ := by
  intro p e s m args below meth c hc H locs lr hl hP hS
  exact lv_sipush hc.1 hc.2.1 hd hv (k p e s m args below meth c hc H locs lr hl hP hS)
theorem x_lconst {n : Fin 2} {v : Int64} (hv : Int64.ofNat (n : Nat) = v) (hd : decode M.2.1 pc = .ok (.lconst n, 1)) (k : Ex E M Q (pc + 1) ls (.long v :: st) μ) : Ex E M Q pc ls (st) μ := by
  intro p e s m args below meth c hc H locs lr hl hP hS
  exact lv_lconst hc.1 hc.2.1 hd hv (k p e s m args below meth c hc H locs lr hl hP hS)
theorem x_iadd {x y : Int32} (hd : decode M.2.1 pc = .ok (.iadd, 1)) (k : Ex E M Q (pc + 1) ls (.int (x + y) :: st) μ) : Ex E M Q pc ls (.int y :: .int x :: st) μ := by
  intro p e s m args below meth c hc H locs lr hl hP hS
  exact lv_iadd hc.1 hc.2.1 hd  (k p e s m args below meth c hc H locs lr hl hP hS)
theorem x_isub {x y : Int32} (hd : decode M.2.1 pc = .ok (.isub, 1)) (k : Ex E M Q (pc + 1) ls (.int (x - y) :: st) μ) : Ex E M Q pc ls (.int y :: .int x :: st) μ := by
  intro p e s m args below meth c hc H locs lr hl hP hS
  exact lv_isub hc.1 hc.2.1 hd  (k p e s m args below meth c hc H locs lr hl hP hS)
theorem x_imul {x y : Int32} (hd : decode M.2.1 pc = .ok (.imul, 1)) (k : Ex E M Q (pc + 1) ls (.int (x * y) :: st) μ) : Ex E M Q pc ls (.int y :: .int x :: st) μ := by
  intro p e s m args below meth c hc H locs lr hl hP hS
  exact lv_imul hc.1 hc.2.1 hd  (k p e s m args below meth c hc H locs lr hl hP hS)
theorem x_iand {x y : Int32} (hd : decode M.2.1 pc = .ok (.iand, 1)) (k : Ex E M Q (pc + 1) ls (.int (x &&& y) :: st) μ) : Ex E M Q pc ls (.int y :: .int x :: st) μ := by
  intro p e s m args below meth c hc H locs lr hl hP hS
  exact lv_iand hc.1 hc.2.1 hd  (k p e s m args below meth c hc H locs lr hl hP hS)
theorem x_ior {x y : Int32} (hd : decode M.2.1 pc = .ok (.ior, 1)) (k : Ex E M Q (pc + 1) ls (.int (x ||| y) :: st) μ) : Ex E M Q pc ls (.int y :: .int x :: st) μ := by
  intro p e s m args below meth c hc H locs lr hl hP hS
  exact lv_ior hc.1 hc.2.1 hd  (k p e s m args below meth c hc H locs lr hl hP hS)
theorem x_ixor {x y : Int32} (hd : decode M.2.1 pc = .ok (.ixor, 1)) (k : Ex E M Q (pc + 1) ls (.int (x ^^^ y) :: st) μ) : Ex E M Q pc ls (.int y :: .int x :: st) μ := by
  intro p e s m args below meth c hc H locs lr hl hP hS
  exact lv_ixor hc.1 hc.2.1 hd  (k p e s m args below meth c hc H locs lr hl hP hS)
theorem x_idiv {x y : Int32} (hne : ¬ y = 0) (hd : decode M.2.1 pc = .ok (.idiv, 1)) (k : Ex E M Q (pc + 1) ls (.int (x / y) :: st) μ) : Ex E M Q pc ls (.int y :: .int x :: st) μ := by
  intro p e s m args below meth c hc H locs lr hl hP hS
  exact lv_idiv hc.1 hc.2.1 hd hne (k p e s m args below meth c hc H locs lr hl hP hS)
theorem x_irem {x y : Int32} (hne : ¬ y = 0) (hd : decode M.2.1 pc = .ok (.irem, 1)) (k : Ex E M Q (pc + 1) ls (.int (x - x / y * y) :: st) μ) : Ex E M Q pc ls (.int y :: .int x :: st) μ := by
  intro p e s m args below meth c hc H locs lr hl hP hS
  exact lv_irem hc.1 hc.2.1 hd hne (k p e s m args below meth c hc H locs lr hl hP hS)
theorem x_ineg {x : Int32} (hd : decode M.2.1 pc = .ok (.ineg, 1)) (k : Ex E M Q (pc + 1) ls (.int (-x) :: st) μ) : Ex E M Q pc ls (.int x :: st) μ := by
  intro p e s m args below meth c hc H locs lr hl hP hS
  exact lv_ineg hc.1 hc.2.1 hd  (k p e s m args below meth c hc H locs lr hl hP hS)
theorem x_ladd {x y : Int64} (hd : decode M.2.1 pc = .ok (.ladd, 1)) (k : Ex E M Q (pc + 1) ls (.long (x + y) :: st) μ) : Ex E M Q pc ls (.long y :: .long x :: st) μ := by
  intro p e s m args below meth c hc H locs lr hl hP hS
  exact lv_ladd hc.1 hc.2.1 hd  (k p e s m args below meth c hc H locs lr hl hP hS)
theorem x_lsub {x y : Int64} (hd : decode M.2.1 pc = .ok (.lsub, 1)) (k : Ex E M Q (pc + 1) ls (.long (x - y) :: st) μ) : Ex E M Q pc ls (.long y :: .long x :: st) μ := by
  intro p e s m args below meth c hc H locs lr hl hP hS
  exact lv_lsub hc.1 hc.2.1 hd  (k p e s m args below meth c hc H locs lr hl hP hS)
theorem x_lmul {x y : Int64} (hd : decode M.2.1 pc = .ok (.lmul, 1)) (k : Ex E M Q (pc + 1) ls (.long (x * y) :: st) μ) : Ex E M Q pc ls (.long y :: .long x :: st) μ := by
  intro p e s m args below meth c hc H locs lr hl hP hS
  exact lv_lmul hc.1 hc.2.1 hd  (k p e s m args below meth c hc H locs lr hl hP hS)
theorem x_ishl {x y : Int32} (hd : decode M.2.1 pc = .ok (.ishl, 1)) (k : Ex E M Q (pc + 1) ls (.int (x <<< (y &&& 31)) :: st) μ) : Ex E M Q pc ls (.int y :: .int x :: st) μ := by
  intro p e s m args below meth c hc H locs lr hl hP hS
  exact lv_ishl hc.1 hc.2.1 hd  (k p e s m args below meth c hc H locs lr hl hP hS)
theorem x_ishr {x y : Int32} (hd : decode M.2.1 pc = .ok (.ishr, 1)) (k : Ex E M Q (pc + 1) ls (.int (x >>> (y &&& 31)) :: st) μ) : Ex E M Q pc ls (.int y :: .int x :: st) μ := by
  intro p e s m args below meth c hc H locs lr hl hP hS
  exact lv_ishr hc.1 hc.2.1 hd  (k p e s m args below meth c hc H locs lr hl hP hS)
theorem x_iushr {x y : Int32} (hd : decode M.2.1 pc = .ok (.iushr, 1)) (k : Ex E M Q (pc + 1) ls (.int ((x.toUInt32 >>> (y.toUInt32 &&& Int32.toUInt32 31)).toInt32) :: st) μ) : Ex E M Q pc ls (.int y :: .int x :: st) μ := by
  intro p e s m args below meth c hc H locs lr hl hP hS
  exact lv_iushr hc.1 hc.2.1 hd rfl (k p e s m args below meth c hc H locs lr hl hP hS)
theorem x_i2l {x : Int32} (hd : decode M.2.1 pc = .ok (.i2l, 1)) (k : Ex E M Q (pc + 1) ls (.long x.toInt64 :: st) μ) : Ex E M Q pc ls (.int x :: st) μ := by
  intro p e s m args below meth c hc H locs lr hl hP hS
  exact lv_i2l hc.1 hc.2.1 hd rfl (k p e s m args below meth c hc H locs lr hl hP hS)
theorem x_i2b {x : Int32} (hd : decode M.2.1 pc = .ok (.i2b, 1)) (k : Ex E M Q (pc + 1) ls (.int x.toInt8.toInt32 :: st) μ) : Ex E M Q pc ls (.int x :: st) μ := by
  intro p e s m args below meth c hc H locs lr hl hP hS
  exact lv_i2b hc.1 hc.2.1 hd rfl (k p e s m args below meth c hc H locs lr hl hP hS)
theorem x_i2s {x : Int32} (hd : decode M.2.1 pc = .ok (.i2s, 1)) (k : Ex E M Q (pc + 1) ls (.int x.toInt16.toInt32 :: st) μ) : Ex E M Q pc ls (.int x :: st) μ := by
  intro p e s m args below meth c hc H locs lr hl hP hS
  exact lv_i2s hc.1 hc.2.1 hd rfl (k p e s m args below meth c hc H locs lr hl hP hS)
theorem x_lcmp {x y : Int64} (hd : decode M.2.1 pc = .ok (.lcmp, 1)) (k : Ex E M Q (pc + 1) ls (.int (lg_cmp x y) :: st) μ) : Ex E M Q pc ls (.long y :: .long x :: st) μ := by
  intro p e s m args below meth c hc H locs lr hl hP hS
  exact W.lcmp hc.1 hc.2.1 hd  (k p e s m args below meth c hc H locs lr hl hP hS)
theorem x_dupi {x : Int32} (hd : decode M.2.1 pc = .ok (.dup, 1)) (k : Ex E M Q (pc + 1) ls (.int x :: .int x :: st) μ) : Ex E M Q pc ls (.int x :: st) μ := by
  intro p e s m args below meth c hc H locs lr hl hP hS
  exact lv_dup hc.1 hc.2.1 hd rfl (k p e s m args below meth c hc H locs lr hl hP hS)
theorem x_dupr {a : Nat} (hd : decode M.2.1 pc = .ok (.dup, 1)) (k : Ex E M Q (pc + 1) ls (.ref a :: .ref a :: st) μ) : Ex E M Q pc ls (.ref a :: st) μ := by
  intro p e s m args below meth c hc H locs lr hl hP hS
  exact lv_dup hc.1 hc.2.1 hd rfl (k p e s m args below meth c hc H locs lr hl hP hS)
theorem x_dup2ri {a : Nat} {i : Int32} (hd : decode M.2.1 pc = .ok (.dup2, 1)) (k : Ex E M Q (pc + 1) ls (.int i :: .ref a :: .int i :: .ref a :: st) μ) : Ex E M Q pc ls (.int i :: .ref a :: st) μ := by
  intro p e s m args below meth c hc H locs lr hl hP hS
  exact lv_dup2_11 hc.1 hc.2.1 hd rfl rfl (k p e s m args below meth c hc H locs lr hl hP hS)
theorem x_dup2l {x : Int64} (hd : decode M.2.1 pc = .ok (.dup2, 1)) (k : Ex E M Q (pc + 1) ls (.long x :: .long x :: st) μ) : Ex E M Q pc ls (.long x :: st) μ := by
  intro p e s m args below meth c hc H locs lr hl hP hS
  exact lv_dup2_2 hc.1 hc.2.1 hd rfl (k p e s m args below meth c hc H locs lr hl hP hS)
theorem x_popi {x : Int32} (hd : decode M.2.1 pc = .ok (.pop, 1)) (k : Ex E M Q (pc + 1) ls (st) μ) : Ex E M Q pc ls (.int x :: st) μ := by
  intro p e s m args below meth c hc H locs lr hl hP hS
  exact lv_pop hc.1 hc.2.1 hd rfl (k p e s m args below meth c hc H locs lr hl hP hS)
theorem x_iload_n {k : Fin 4} {i : Nat} {x : Int32} (q : Nat) (hq : ls[q]? = some (i, .int x)) (hi : (k : Nat) = i) (hd : decode M.2.1 pc = .ok (.iload_n k, 1)) (h : Ex E M Q (pc + 1) ls (.int x :: st) μ) : Ex E M Q pc ls st μ := by
  intro p e s m args below meth c hc H locs lr hl hP hS
  exact lv_iload_n hc.1 hc.2.1 hd hi (lv_at hl q (by rw [List.getElem?_map, hq]; rfl)) (h p e s m args below meth c hc H locs lr hl hP hS)
theorem x_lload_n {k : Fin 4} {i : Nat} {x : Int64} (q : Nat) (hq : ls[q]? = some (i, .long x)) (hi : (k : Nat) = i) (hd : decode M.2.1 pc = .ok (.lload_n k, 1)) (h : Ex E M Q (pc + 1) ls (.long x :: st) μ) : Ex E M Q pc ls st μ := by
  intro p e s m args below meth c hc H locs lr hl hP hS
  exact lv_lload_n hc.1 hc.2.1 hd hi (lv_at hl q (by rw [List.getElem?_map, hq]; rfl)) (h p e s m args below meth c hc H locs lr hl hP hS)
theorem x_aload_n {k : Fin 4} {i : Nat} {x : Nat} (q : Nat) (hq : ls[q]? = some (i, .ref x)) (hi : (k : Nat) = i) (hd : decode M.2.1 pc = .ok (.aload_n k, 1)) (h : Ex E M Q (pc + 1) ls (.ref x :: st) μ) : Ex E M Q pc ls st μ := by
  intro p e s m args below meth c hc H locs lr hl hP hS
  exact lv_aload_n hc.1 hc.2.1 hd hi (lv_at hl q (by rw [List.getElem?_map, hq]; rfl)) (h p e s m args below meth c hc H locs lr hl hP hS)
theorem x_iload {i : Nat} {x : Int32} (q : Nat) (hq : ls[q]? = some (i, .int x)) (hd : decode M.2.1 pc = .ok (.iload i, 2)) (h : Ex E M Q (pc + 2) ls (.int x :: st) μ) : Ex E M Q pc ls st μ := by
  intro p e s m args below meth c hc H locs lr hl hP hS
  exact lv_iload hc.1 hc.2.1 hd (lv_at hl q (by rw [List.getElem?_map, hq]; rfl)) (h p e s m args below meth c hc H locs lr hl hP hS)
theorem x_lload {i : Nat} {x : Int64} (q : Nat) (hq : ls[q]? = some (i, .long x)) (hd : decode M.2.1 pc = .ok (.lload i, 2)) (h : Ex E M Q (pc + 2) ls (.long x :: st) μ) : Ex E M Q pc ls st μ := by
  intro p e s m args below meth c hc H locs lr hl hP hS
  exact lv_lload hc.1 hc.2.1 hd (lv_at hl q (by rw [List.getElem?_map, hq]; rfl)) (h p e s m args below meth c hc H locs lr hl hP hS)
theorem x_aload {i : Nat} {x : Nat} (q : Nat) (hq : ls[q]? = some (i, .ref x)) (hd : decode M.2.1 pc = .ok (.aload i, 2)) (h : Ex E M Q (pc + 2) ls (.ref x :: st) μ) : Ex E M Q pc ls st μ := by
  intro p e s m args below meth c hc H locs lr hl hP hS
  exact lv_aload hc.1 hc.2.1 hd (lv_at hl q (by rw [List.getElem?_map, hq]; rfl)) (h p e s m args below meth c hc H locs lr hl hP hS)
theorem xl_sub {sz nL : Nat} {lr : Array Slot} {l l' : List (Nat × Value)} (h : lv_has lr nL (l.map (shl sz))) (ks : List Nat) (hk : lv_pick l ks = l') : lv_has lr nL (l'.map (shl sz)) := by
  refine lv_sub h ks ?_
  subst hk
  unfold lv_pick
  induction ks with
  | nil => rfl
  | cons a t ih =>
    rw [List.filterMap_cons, List.filterMap_cons, List.getElem?_map]
    cases hq : l[a]? with
    | none => exact ih
    | some z =>
      show shl sz z :: _ = shl sz z :: _
      rw [ih]
theorem x_sub {l' : List (Nat × Value)} (ks : List Nat) (hk : lv_pick ls ks = l') (h : Ex E M Q pc l' st μ) : Ex E M Q pc ls st μ := by
  intro p e s m args below meth c hc H locs lr hl hP hS
  exact h p e s m args below meth c hc H locs lr (xl_sub hl ks hk) hP hS
/-- the locals behind a store -/
def st1 (i : Nat) (v : Value) (l : List (Nat × Value)) : List (Nat × Value) := (i, v) :: l.filter (fun q => !(q.1 == i) && !(q.1 + 1 == i && q.2.category == 2))
def st2 (i : Nat) (v : Value) (l : List (Nat × Value)) : List (Nat × Value) := (i, v) :: l.filter (fun q => !(q.1 == i) && (!(q.1 == i + 1) && !(q.1 + 1 == i && q.2.category == 2)))
theorem st1_sh (sz i : Nat) (v : Value) (l : List (Nat × Value)) : (i, sh sz v) :: (l.map (shl sz)).filter (fun q => !(q.1 == i) && !(q.1 + 1 == i && q.2.category == 2)) = (st1 i v l).map (shl sz) := by
  unfold st1
  rw [List.map_cons, List.filter_map]
  have e : ((fun q : Nat × Value => !(q.1 == i) && !(q.1 + 1 == i && q.2.category == 2)) ∘ shl sz) = (fun q : Nat × Value => !(q.1 == i) && !(q.1 + 1 == i && q.2.category == 2)) := by
    funext q
    simp [shl, sh_cat]
  rw [e]
  rfl
theorem st2_sh (sz i : Nat) (v : Value) (l : List (Nat × Value)) : (i, sh sz v) :: (l.map (shl sz)).filter (fun q => !(q.1 == i) && (!(q.1 == i + 1) && !(q.1 + 1 == i && q.2.category == 2))) = (st2 i v l).map (shl sz) := by
  unfold st2
  rw [List.map_cons, List.filter_map]
  have e : ((fun q : Nat × Value => !(q.1 == i) && (!(q.1 == i + 1) && !(q.1 + 1 == i && q.2.category == 2))) ∘ shl sz) = (fun q : Nat × Value => !(q.1 == i) && (!(q.1 == i + 1) && !(q.1 + 1 == i && q.2.category == 2))) := by
    funext q
    simp [shl, sh_cat]
  rw [e]
  rfl
theorem x_istore_n {k : Fin 4} {i : Nat} {x : Int32} {l' : List (Nat × Value)} (ks : List Nat) (hk : lv_pick (st1 i (.int x) ls) ks = l') (hi : (k : Nat) = i) (hn : i < M.2.2.1) (hd : decode M.2.1 pc = .ok (.istore_n k, 1)) (h : Ex E M Q (pc + 1) l' st μ) : Ex E M Q pc ls (.int x :: st) μ := by
  intro p e s m args below meth c hc H locs lr hl hP hS
  exact lv_istore_n hc.1 hc.2.1 hd hi hl hn (st1_sh _ i (.int x) ls) (fun lr hl => h p e s m args below meth c hc H locs lr (xl_sub hl ks hk) hP hS)
theorem x_lstore_n {k : Fin 4} {i : Nat} {x : Int64} {l' : List (Nat × Value)} (ks : List Nat) (hk : lv_pick (st2 i (.long x) ls) ks = l') (hi : (k : Nat) = i) (hn : i + 1 < M.2.2.1) (hd : decode M.2.1 pc = .ok (.lstore_n k, 1)) (h : Ex E M Q (pc + 1) l' st μ) : Ex E M Q pc ls (.long x :: st) μ := by
  intro p e s m args below meth c hc H locs lr hl hP hS
  exact lv_lstore_n hc.1 hc.2.1 hd hi hl hn (st2_sh _ i (.long x) ls) (fun lr hl => h p e s m args below meth c hc H locs lr (xl_sub hl ks hk) hP hS)
theorem x_astore_n {k : Fin 4} {i : Nat} {x : Nat} {l' : List (Nat × Value)} (ks : List Nat) (hk : lv_pick (st1 i (.ref x) ls) ks = l') (hi : (k : Nat) = i) (hn : i < M.2.2.1) (hd : decode M.2.1 pc = .ok (.astore_n k, 1)) (h : Ex E M Q (pc + 1) l' st μ) : Ex E M Q pc ls (.ref x :: st) μ := by
  intro p e s m args below meth c hc H locs lr hl hP hS
  exact lv_astore_n hc.1 hc.2.1 hd hi hl hn (st1_sh _ i (.ref x) ls) (fun lr hl => h p e s m args below meth c hc H locs lr (xl_sub hl ks hk) hP hS)
theorem x_istore {k : Fin 4} {i : Nat} {x : Int32} {l' : List (Nat × Value)} (ks : List Nat) (hk : lv_pick (st1 i (.int x) ls) ks = l') (hi : (k : Nat) = i) (hn : i < M.2.2.1) (hd : decode M.2.1 pc = .ok (.istore i, 2)) (h : Ex E M Q (pc + 2) l' st μ) : Ex E M Q pc ls (.int x :: st) μ := by
  intro p e s m args below meth c hc H locs lr hl hP hS
  exact lv_istore hc.1 hc.2.1 hd hl hn (st1_sh _ i (.int x) ls) (fun lr hl => h p e s m args below meth c hc H locs lr (xl_sub hl ks hk) hP hS)
theorem x_lstore {k : Fin 4} {i : Nat} {x : Int64} {l' : List (Nat × Value)} (ks : List Nat) (hk : lv_pick (st2 i (.long x) ls) ks = l') (hi : (k : Nat) = i) (hn : i + 1 < M.2.2.1) (hd : decode M.2.1 pc = .ok (.lstore i, 2)) (h : Ex E M Q (pc + 2) l' st μ) : Ex E M Q pc ls (.long x :: st) μ := by
  intro p e s m args below meth c hc H locs lr hl hP hS
  exact lv_lstore hc.1 hc.2.1 hd hl hn (st2_sh _ i (.long x) ls) (fun lr hl => h p e s m args below meth c hc H locs lr (xl_sub hl ks hk) hP hS)
theorem x_astore {k : Fin 4} {i : Nat} {x : Nat} {l' : List (Nat × Value)} (ks : List Nat) (hk : lv_pick (st1 i (.ref x) ls) ks = l') (hi : (k : Nat) = i) (hn : i < M.2.2.1) (hd : decode M.2.1 pc = .ok (.astore i, 2)) (h : Ex E M Q (pc + 2) l' st μ) : Ex E M Q pc ls (.ref x :: st) μ := by
  intro p e s m args below meth c hc H locs lr hl hP hS
  exact lv_astore hc.1 hc.2.1 hd hl hn (st1_sh _ i (.ref x) ls) (fun lr hl => h p e s m args below meth c hc H locs lr (xl_sub hl ks hk) hP hS)
theorem x_iinc {i : Nat} {n : Int} {x v : Int32} {l' : List (Nat × Value)} (q : Nat) (hq : ls[q]? = some (i, .int x)) (hv : x + Int32.ofInt n = v) (ks : List Nat) (hk : lv_pick (st1 i (.int v) ls) ks = l') (hn : i < M.2.2.1) (hd : decode M.2.1 pc = .ok (.iinc i n, 3)) (h : Ex E M Q (pc + 3) l' st μ) : Ex E M Q pc ls st μ := by
  intro p e s m args below meth c hc H locs lr hl hP hS
  exact lv_iinc (k := q) hc.1 hc.2.1 hd hl (by rw [List.getElem?_map, hq]; rfl) hv hn (st1_sh _ i (.int v) ls) (fun lr hl => h p e s m args below meth c hc H locs lr (xl_sub hl ks hk) hP hS)
theorem x_topi {x : Int32} (h : ∀ y : Int32, y = x → Ex E M Q pc ls (.int y :: st) μ) : Ex E M Q pc ls (.int x :: st) μ := h x rfl
theorem x_topl {x : Int64} (h : ∀ y : Int64, y = x → Ex E M Q pc ls (.long y :: st) μ) : Ex E M Q pc ls (.long x :: st) μ := h x rfl
theorem x_goto {off : Int} {tgt : Nat} (ht : (pc : Int) + off = (tgt : Int)) (hd : decode M.2.1 pc = .ok (.goto off, 3)) (h : Ex E M Q tgt ls st μ) : Ex E M Q pc ls st μ := by
  intro p e s m args below meth c hc H locs lr hl hP hS
  exact lv_goto hc.1 hc.2.1 hd ht (h p e s m args below meth c hc H locs lr hl hP hS)
theorem x_if_eq {x : Int32} {off : Int} {tgt : Nat} (ht : (pc : Int) + off = (tgt : Int)) (hd : decode M.2.1 pc = .ok (.ifCond .eq off, 3)) (kt : x = 0 → Ex E M Q tgt ls st μ) (kf : ¬ x = 0 → Ex E M Q (pc + 3) ls st μ) : Ex E M Q pc ls (.int x :: st) μ := by
  intro p e s m args below meth c hc H locs lr hl hP hS
  exact lv_if_eq hc.1 hc.2.1 hd ht (fun z => kt z p e s m args below meth c hc H locs lr hl hP hS) (fun z => kf z p e s m args below meth c hc H locs lr hl hP hS)
theorem x_icmp_eq {x y : Int32} {off : Int} {tgt : Nat} (ht : (pc : Int) + off = (tgt : Int)) (hd : decode M.2.1 pc = .ok (.if_icmp .eq off, 3)) (kt : x = y → Ex E M Q tgt ls st μ) (kf : ¬ x = y → Ex E M Q (pc + 3) ls st μ) : Ex E M Q pc ls (.int y :: .int x :: st) μ := by
  intro p e s m args below meth c hc H locs lr hl hP hS
  exact lv_icmp_eq hc.1 hc.2.1 hd ht (fun z => kt z p e s m args below meth c hc H locs lr hl hP hS) (fun z => kf z p e s m args below meth c hc H locs lr hl hP hS)
theorem x_if_ne {x : Int32} {off : Int} {tgt : Nat} (ht : (pc : Int) + off = (tgt : Int)) (hd : decode M.2.1 pc = .ok (.ifCond .ne off, 3)) (kt : ¬ x = 0 → Ex E M Q tgt ls st μ) (kf : x = 0 → Ex E M Q (pc + 3) ls st μ) : Ex E M Q pc ls (.int x :: st) μ := by
  intro p e s m args below meth c hc H locs lr hl hP hS
  exact lv_if_ne hc.1 hc.2.1 hd ht (fun z => kt z p e s m args below meth c hc H locs lr hl hP hS) (fun z => kf z p e s m args below meth c hc H locs lr hl hP hS)
theorem x_icmp_ne {x y : Int32} {off : Int} {tgt : Nat} (ht : (pc : Int) + off = (tgt : Int)) (hd : decode M.2.1 pc = .ok (.if_icmp .ne off, 3)) (kt : ¬ x = y → Ex E M Q tgt ls st μ) (kf : x = y → Ex E M Q (pc + 3) ls st μ) : Ex E M Q pc ls (.int y :: .int x :: st) μ := by
  intro p e s m args below meth c hc H locs lr hl hP hS
  exact lv_icmp_ne hc.1 hc.2.1 hd ht (fun z => kt z p e s m args below meth c hc H locs lr hl hP hS) (fun z => kf z p e s m args below meth c hc H locs lr hl hP hS)
theorem x_if_lt {x : Int32} {off : Int} {tgt : Nat} (ht : (pc : Int) + off = (tgt : Int)) (hd : decode M.2.1 pc = .ok (.ifCond .lt off, 3)) (kt : x < 0 → Ex E M Q tgt ls st μ) (kf : ¬ x < 0 → Ex E M Q (pc + 3) ls st μ) : Ex E M Q pc ls (.int x :: st) μ := by
  intro p e s m args below meth c hc H locs lr hl hP hS
  exact lv_if_lt hc.1 hc.2.1 hd ht (fun z => kt z p e s m args below meth c hc H locs lr hl hP hS) (fun z => kf z p e s m args below meth c hc H locs lr hl hP hS)
theorem x_icmp_lt {x y : Int32} {off : Int} {tgt : Nat} (ht : (pc : Int) + off = (tgt : Int)) (hd : decode M.2.1 pc = .ok (.if_icmp .lt off, 3)) (kt : x < y → Ex E M Q tgt ls st μ) (kf : ¬ x < y → Ex E M Q (pc + 3) ls st μ) : Ex E M Q pc ls (.int y :: .int x :: st) μ := by
  intro p e s m args below meth c hc H locs lr hl hP hS
  exact lv_icmp_lt hc.1 hc.2.1 hd ht (fun z => kt z p e s m args below meth c hc H locs lr hl hP hS) (fun z => kf z p e s m args below meth c hc H locs lr hl hP hS)
theorem x_if_ge {x : Int32} {off : Int} {tgt : Nat} (ht : (pc : Int) + off = (tgt : Int)) (hd : decode M.2.1 pc = .ok (.ifCond .ge off, 3)) (kt : 0 ≤ x → Ex E M Q tgt ls st μ) (kf : ¬ 0 ≤ x → Ex E M Q (pc + 3) ls st μ) : Ex E M Q pc ls (.int x :: st) μ := by
  intro p e s m args below meth c hc H locs lr hl hP hS
  exact lv_if_ge hc.1 hc.2.1 hd ht (fun z => kt z p e s m args below meth c hc H locs lr hl hP hS) (fun z => kf z p e s m args below meth c hc H locs lr hl hP hS)
theorem x_icmp_ge {x y : Int32} {off : Int} {tgt : Nat} (ht : (pc : Int) + off = (tgt : Int)) (hd : decode M.2.1 pc = .ok (.if_icmp .ge off, 3)) (kt : y ≤ x → Ex E M Q tgt ls st μ) (kf : ¬ y ≤ x → Ex E M Q (pc + 3) ls st μ) : Ex E M Q pc ls (.int y :: .int x :: st) μ := by
  intro p e s m args below meth c hc H locs lr hl hP hS
  exact lv_icmp_ge hc.1 hc.2.1 hd ht (fun z => kt z p e s m args below meth c hc H locs lr hl hP hS) (fun z => kf z p e s m args below meth c hc H locs lr hl hP hS)
theorem x_if_gt {x : Int32} {off : Int} {tgt : Nat} (ht : (pc : Int) + off = (tgt : Int)) (hd : decode M.2.1 pc = .ok (.ifCond .gt off, 3)) (kt : 0 < x → Ex E M Q tgt ls st μ) (kf : ¬ 0 < x → Ex E M Q (pc + 3) ls st μ) : Ex E M Q pc ls (.int x :: st) μ := by
  intro p e s m args below meth c hc H locs lr hl hP hS
  exact lv_if_gt hc.1 hc.2.1 hd ht (fun z => kt z p e s m args below meth c hc H locs lr hl hP hS) (fun z => kf z p e s m args below meth c hc H locs lr hl hP hS)
theorem x_icmp_gt {x y : Int32} {off : Int} {tgt : Nat} (ht : (pc : Int) + off = (tgt : Int)) (hd : decode M.2.1 pc = .ok (.if_icmp .gt off, 3)) (kt : y < x → Ex E M Q tgt ls st μ) (kf : ¬ y < x → Ex E M Q (pc + 3) ls st μ) : Ex E M Q pc ls (.int y :: .int x :: st) μ := by
  intro p e s m args below meth c hc H locs lr hl hP hS
  exact lv_icmp_gt hc.1 hc.2.1 hd ht (fun z => kt z p e s m args below meth c hc H locs lr hl hP hS) (fun z => kf z p e s m args below meth c hc H locs lr hl hP hS)
theorem x_if_le {x : Int32} {off : Int} {tgt : Nat} (ht : (pc : Int) + off = (tgt : Int)) (hd : decode M.2.1 pc = .ok (.ifCond .le off, 3)) (kt : x ≤ 0 → Ex E M Q tgt ls st μ) (kf : ¬ x ≤ 0 → Ex E M Q (pc + 3) ls st μ) : Ex E M Q pc ls (.int x :: st) μ := by
  intro p e s m args below meth c hc H locs lr hl hP hS
  exact lv_if_le hc.1 hc.2.1 hd ht (fun z => kt z p e s m args below meth c hc H locs lr hl hP hS) (fun z => kf z p e s m args below meth c hc H locs lr hl hP hS)
theorem x_icmp_le {x y : Int32} {off : Int} {tgt : Nat} (ht : (pc : Int) + off = (tgt : Int)) (hd : decode M.2.1 pc = .ok (.if_icmp .le off, 3)) (kt : x ≤ y → Ex E M Q tgt ls st μ) (kf : ¬ x ≤ y → Ex E M Q (pc + 3) ls st μ) : Ex E M Q pc ls (.int y :: .int x :: st) μ := by
  intro p e s m args below meth c hc H locs lr hl hP hS
  exact lv_icmp_le hc.1 hc.2.1 hd ht (fun z => kt z p e s m args below meth c hc H locs lr hl hP hS) (fun z => kf z p e s m args below meth c hc H locs lr hl hP hS)
theorem x_ldcw {own : String} {index : Nat} {v : Int32} (ho : M.1.cls = own) (hw : Cond.constant own index v ∈ tbG) (hd : decode M.2.1 pc = .ok (.ldc_w index, 3)) (h : Ex E M Q (pc + 3) ls (.int v :: st) μ) : Ex E M Q pc ls st μ := by
  intro p e s m args below meth c hc H locs lr hl hP hS
  subst ho
  exact lv_ldcw hc.1 hc.2.1 hc.2.2.2.2.1 (hc.2.2.2.2.2.1 _ hw) hd (h p e s m args below meth c hc H locs lr hl hP hS)
theorem x_ldc {own : String} {index : Nat} {v : Int32} (ho : M.1.cls = own) (hw : Cond.constant own index v ∈ tbG) (hd : decode M.2.1 pc = .ok (.ldc index, 2)) (h : Ex E M Q (pc + 2) ls (.int v :: st) μ) : Ex E M Q pc ls st μ := by
  intro p e s m args below meth c hc H locs lr hl hP hS
  subst ho
  exact lv_ldc hc.1 hc.2.1 hc.2.2.2.2.1 (hc.2.2.2.2.2.1 _ hw) hd (h p e s m args below meth c hc H locs lr hl hP hS)
theorem x_ldc2 {own : String} {index : Nat} {v : Int64} (ho : M.1.cls = own) (hw : Cond.constantLong own index v ∈ tbG) (hd : decode M.2.1 pc = .ok (.ldc2_w index, 3)) (h : Ex E M Q (pc + 3) ls (.long v :: st) μ) : Ex E M Q pc ls st μ := by
  intro p e s m args below meth c hc H locs lr hl hP hS
  subst ho
  exact lv_ldc2 hc.1 hc.2.1 hc.2.2.2.2.1 (hc.2.2.2.2.2.1 _ hw) hd (h p e s m args below meth c hc H locs lr hl hP hS)
theorem x_tabIn {dflt lo hi : Int} {offs : Array Int} {len : Nat} {x : Int32} {off : Int} {tgt : Nat} (h1 : ¬ x.toInt < lo) (h2 : ¬ hi < x.toInt) (ho : offs[(x.toInt - lo).toNat]? = some off) (ht : (pc : Int) + off = (tgt : Int)) (hd : decode M.2.1 pc = .ok (.tableswitch dflt lo hi offs, len)) (h : Ex E M Q tgt ls st μ) : Ex E M Q pc ls (.int x :: st) μ := by
  intro p e s m args below meth c hc H locs lr hl hP hS
  exact lv_tableIn hc.1 hc.2.1 hd h1 h2 ho ht (h p e s m args below meth c hc H locs lr hl hP hS)
theorem x_tabOut {dflt lo hi : Int} {offs : Array Int} {len : Nat} {x : Int32} {tgt : Nat} (h1 : x.toInt < lo ∨ hi < x.toInt) (ht : (pc : Int) + dflt = (tgt : Int)) (hd : decode M.2.1 pc = .ok (.tableswitch dflt lo hi offs, len)) (h : Ex E M Q tgt ls st μ) : Ex E M Q pc ls (.int x :: st) μ := by
  intro p e s m args below meth c hc H locs lr hl hP hS
  exact lv_tableOut hc.1 hc.2.1 hd h1 ht (h p e s m args below meth c hc H locs lr hl hP hS)
-- arrays
theorem ce_int {a : Nat} (h : kd a = 20) : ce E μ a = .inl (E.2.2.1 20, ln a, .inl (μ.1 a)) := by simp [ce, h]
theorem ce_bool {a : Nat} (h : kd a = 22) : ce E μ a = .inl (E.2.2.1 22, ln a, .inl (μ.1 a)) := by simp [ce, h]
theorem ce_long {a : Nat} (h : kd a = 21) : ce E μ a = .inl (E.2.2.1 21, ln a, .inr (.inl (μ.2 a))) := by simp [ce, h]
theorem ce_ref {a k : Nat} (h : kd a = k) (h1 : 23 ≤ k) : ce E μ a = .inl (E.2.2.1 k, ln a, .inr (.inr (.inr (.inr (fun j => some (E.2.2.2 + rf a j)))))) := by
  subst h
  unfold ce
  rw [if_neg (by omega), if_neg (by omega), if_neg (by omega)]
theorem upd_mI {o k : Nat} {x : Int32} : upd (μ.1 o) k x = (mI μ o k x).1 o := by
  funext b
  simp [upd, mI]
theorem upd_mJ {o k : Nat} {x : Int64} : vp_updL (μ.2 o) k x = (mJ μ o k x).2 o := by
  funext b
  simp [vp_updL, mJ]
theorem x_iald {a : Nat} {i : Int32} (ha : kd a = 20) (hi : vp_in i (ln a)) (hd : decode M.2.1 pc = .ok (.iaload, 1)) (h : Ex E M Q (pc + 1) ls (.int (μ.1 a i.toNatClampNeg) :: st) μ) : Ex E M Q pc ls (.int i :: .ref a :: st) μ := by
  intro p e s m args below meth c hc H locs lr hl hP hS
  exact va_iald hc.1 hc.2.1 hc.2.2.2.2.2.2.2.1 hP a 0 (by rw [wd_get (kd_lt20 (by omega)), ce_int ha]) rfl hi hd (h p e s m args below meth c hc H locs lr hl hP hS)
theorem x_zald {a : Nat} {i : Int32} (ha : kd a = 22) (hi : vp_in i (ln a)) (hd : decode M.2.1 pc = .ok (.baload, 1)) (h : Ex E M Q (pc + 1) ls (.int (μ.1 a i.toNatClampNeg) :: st) μ) : Ex E M Q pc ls (.int i :: .ref a :: st) μ := by
  intro p e s m args below meth c hc H locs lr hl hP hS
  exact va_zald hc.1 hc.2.1 hc.2.2.2.2.2.2.2.1 hP a 2 (by rw [wd_get (kd_lt20 (by omega)), ce_bool ha]) rfl hi hd (h p e s m args below meth c hc H locs lr hl hP hS)
theorem x_lald {a : Nat} {i : Int32} (ha : kd a = 21) (hi : vp_in i (ln a)) (hd : decode M.2.1 pc = .ok (.laload, 1)) (h : Ex E M Q (pc + 1) ls (.long (μ.2 a i.toNatClampNeg) :: st) μ) : Ex E M Q pc ls (.int i :: .ref a :: st) μ := by
  intro p e s m args below meth c hc H locs lr hl hP hS
  exact va_lald hc.1 hc.2.1 hc.2.2.2.2.2.2.2.1 hP a 1 (by rw [wd_get (kd_lt20 (by omega)), ce_long ha]) rfl hi hd (h p e s m args below meth c hc H locs lr hl hP hS)
theorem x_aald {a t : Nat} {ty : FieldType} {i : Int32} {b : Nat} (ha : kd a = 23 + t) (ht : (tys E)[3 + t]? = some (E.2.2.1 (23 + t), ty)) (hty : ty.isReference = true) (hi : vp_in i (ln a)) (hb : rf a i.toNatClampNeg = b) (hd : decode M.2.1 pc = .ok (.aaload, 1)) (h : Ex E M Q (pc + 1) ls (.ref b :: st) μ) : Ex E M Q pc ls (.int i :: .ref a :: st) μ := by
  intro p e s m args below meth c hc H locs lr hl hP hS
  subst hb
  have hlt : i.toNatClampNeg < ln a := Nat.not_le.mp fun q => hi (Or.inr q)
  have hn : a < NC := kd_lt (fun q => by
    rw [ha] at q
    have q1 : t = 76 := by omega
    subst q1
    cases ht)
  have hcell := hP a _ (by rw [wd_get hn, ce_ref ha (by omega)])
  exact W.aald (v := .ref (E.2.2.2 + rf a i.toNatClampNeg)) (ty := ty) hc.1 hc.2.1 hcell ((hc.2.2.2.2.2.2.2.1.2 (3 + t) _ ht).1 (ln a) (fun j => va_rf (some (E.2.2.2 + rf a j)))) hty (fun q => by cases q) (by show ¬ (i < 0 ∨ (arrV _ _ _).slots.size ≤ _); rw [arrV_size]; exact hi) (by show (arrV _ _ _).slots[_]? = _; rw [arrV_read _ _ hlt]; rfl) rfl rfl hd (h p e s m args below meth c hc H locs lr hl hP hS)
theorem x_iast {a : Nat} {i x : Int32} (ha : kd a = 20) (hi : vp_in i (ln a)) (hd : decode M.2.1 pc = .ok (.iastore, 1)) (h : Ex E M Q (pc + 1) ls st (mI μ a i.toNatClampNeg x)) : Ex E M Q pc ls (.int x :: .int i :: .ref a :: st) μ := by
  intro p e s m args below meth c hc H locs lr hl hP hS
  have hn : a < NC := kd_lt20 (by omega)
  refine va_iast hc.1 hc.2.1 hc.2.2.2.2.2.2.2.1 hP (wd_D E μ) hS a 0 (by rw [wd_get hn, ce_int ha]) rfl hi hd (fun H1 l1 hP1 hD1 hS1 => ?_)
  rw [wd_set (ν := mI μ a i.toNatClampNeg x) hn (by rw [ce_int ha, upd_mI]) (fun _ q => ce_mI q)] at hP1
  exact h p e s m args below meth c hc H1 l1 lr hl hP1 hS1
theorem x_zast {a : Nat} {i x y : Int32} (ha : kd a = 22) (hi : vp_in i (ln a)) (hy : vp_nar .boolean x = y) (hd : decode M.2.1 pc = .ok (.bastore, 1)) (h : Ex E M Q (pc + 1) ls st (mI μ a i.toNatClampNeg y)) : Ex E M Q pc ls (.int x :: .int i :: .ref a :: st) μ := by
  intro p e s m args below meth c hc H locs lr hl hP hS
  have hn : a < NC := kd_lt20 (by omega)
  subst hy
  refine va_zast hc.1 hc.2.1 hc.2.2.2.2.2.2.2.1 hP (wd_D E μ) hS a 2 (by rw [wd_get hn, ce_bool ha]) rfl hi hd (fun H1 l1 hP1 hD1 hS1 => ?_)
  rw [wd_set (ν := mI μ a i.toNatClampNeg (vp_nar .boolean x)) hn (by rw [ce_bool ha, upd_mI]) (fun _ q => ce_mI q)] at hP1
  exact h p e s m args below meth c hc H1 l1 lr hl hP1 hS1
theorem x_last {a : Nat} {i : Int32} {x : Int64} (ha : kd a = 21) (hi : vp_in i (ln a)) (hd : decode M.2.1 pc = .ok (.lastore, 1)) (h : Ex E M Q (pc + 1) ls st (mJ μ a i.toNatClampNeg x)) : Ex E M Q pc ls (.long x :: .int i :: .ref a :: st) μ := by
  intro p e s m args below meth c hc H locs lr hl hP hS
  have hn : a < NC := kd_lt20 (by omega)
  refine va_last hc.1 hc.2.1 hc.2.2.2.2.2.2.2.1 hP (wd_D E μ) hS a 1 (by rw [wd_get hn, ce_long ha]) rfl hi hd (fun H1 l1 hP1 hD1 hS1 => ?_)
  rw [wd_set (ν := mJ μ a i.toNatClampNeg x) hn (by rw [ce_long ha, upd_mJ]) (fun _ q => ce_mJ q)] at hP1
  exact h p e s m args below meth c hc H1 l1 lr hl hP1 hS1
theorem x_alen {a N : Nat} {v : Int32} (ha : kd a = 20 ∨ kd a = 21) (hN : ln a = N) (hv : Int32.ofNat N = v) (hd : decode M.2.1 pc = .ok (.arraylength, 1)) (h : Ex E M Q (pc + 1) ls (.int v :: st) μ) : Ex E M Q pc ls (.ref a :: st) μ := by
  intro p e s m args below meth c hc H locs lr hl hP hS
  subst hN
  rcases ha with ha | ha
  · exact va_alen hc.1 hc.2.1 hc.2.2.2.2.2.2.2.1 hP a 0 (by rw [wd_get (kd_lt20 (by omega)), ce_int ha]) rfl hv hd (h p e s m args below meth c hc H locs lr hl hP hS)
  · exact va_alen hc.1 hc.2.1 hc.2.2.2.2.2.2.2.1 hP a 1 (by rw [wd_get (kd_lt20 (by omega)), ce_long ha]) rfl hv hd (h p e s m args below meth c hc H locs lr hl hP hS)
-- fields
theorem ce_obj {o ci : Nat} (h : kd o = ci) (h1 : ci < 20) : ce E μ o = .inr (ci, (List.range (ln o)).map (fun k => sh E.2.2.2 (fp μ o k))) := by
  subst h
  unfold ce
  rw [if_pos h1]
theorem x_get {o ci k N index : Nat} {C : String} {T : u_T} {v : Value} (ho : kd o = ci) (h1 : ci < 20) (hc0 : classes[ci]? = some (C, T, N)) (hin : ∀ w ∈ u_ws C T N, w ∈ tbG) (hk : k < N) (hkl : k < ln o) (hlink : Cond.fieldLink M.1.cls index (T k).1 (T k).2.1 (T k).2.2.1 ∈ tbG) (hv : fp μ o k = v) (hd : decode M.2.1 pc = .ok (.getfield index, 3)) (h : Ex E M Q (pc + 3) ls (v :: st) μ) : Ex E M Q pc ls (.ref o :: st) μ := by
  intro p e s m args below meth c hc H locs lr hl hP hS
  subst hv
  exact va_get hc.1 hc.2.1 hc.2.2.2.2.2.1 hin hc.2.2.2.2.1 hc.2.2.2.2.2.2.2.1 hP o (by rw [wd_get (kd_lt20 (by omega)), ce_obj ho h1]) hc0 k hk (hc.2.2.2.2.2.1 _ hlink) (fun _ h9 => h9) (by rw [List.getElem?_map, List.getElem?_range hkl]; rfl) hd (h p e s m args below meth c hc H locs lr hl hP hS)
theorem fp_mI {o k : Nat} {x : Int32} (h : ft (kd o) k ≠ 1 ∧ ft (kd o) k ≠ 2) (j : Nat) : fp (mI μ o k x) o j = if j = k then .int x else fp μ o j := by
  unfold fp
  by_cases e : j = k
  · subst e
    rw [if_neg h.1, if_neg h.2, if_pos rfl]
    simp [mI]
  · rw [if_neg e]
    simp [mI, e]
theorem fp_mJ {o k : Nat} {x : Int64} (h : ft (kd o) k = 2) (j : Nat) : fp (mJ μ o k x) o j = if j = k then .long x else fp μ o j := by
  unfold fp
  by_cases e : j = k
  · subst e
    rw [if_neg (by omega), if_pos h, if_pos rfl]
    simp [mJ]
  · rw [if_neg e]
    simp [mJ, e]
theorem set_range {n k : Nat} {f g : Nat → Value} {v : Value} (hk : k < n) (h : ∀ j, g j = if j = k then v else f j) : ((List.range n).map f).set k v = (List.range n).map g := by
  apply List.ext_getElem?
  intro i
  rw [List.getElem?_set]
  by_cases e : k = i
  · subst e
    rw [if_pos rfl, if_pos (by simpa using hk), List.getElem?_map, List.getElem?_range hk]
    show some v = some (g k)
    rw [h, if_pos rfl]
  · rw [if_neg e, List.getElem?_map, List.getElem?_map]
    by_cases l : i < n
    · rw [List.getElem?_range l]
      show some (f i) = some (g i)
      rw [h, if_neg (fun q => e q.symm)]
    · rw [List.getElem?_eq_none (by simpa using l)]
      rfl
theorem x_putI {o ci k N index : Nat} {C : String} {T : u_T} {ty : FieldType} {x : Int32} (ty0 : Nat → FieldType) (hty : ∀ k, k < N → parseFieldDescriptor (T k).2.2.1 = some (ty0 k)) (hnm : ∀ a, a < N → ∀ b, b < N → a ≠ b → (T a).2.1 ≠ (T b).2.1) (ho : kd o = ci) (h1 : ci < 20) (hc0 : classes[ci]? = some (C, T, N)) (hin : ∀ w ∈ u_ws C T N, w ∈ tbG) (hk : k < N) (hkl : k < ln o) (hlink : Cond.fieldLink M.1.cls index (T k).1 (T k).2.1 (T k).2.2.1 ∈ tbG) (hfin : (T k).2.2.2 = false) (hf : ft ci k ≠ 1 ∧ ft ci k ≠ 2) (hpd : parseFieldDescriptor (T k).2.2.1 = some ty) (hn : narrow ty (.int x) = .int x) (hfit : fits ty (.int x) = true) (hd : decode M.2.1 pc = .ok (.putfield index, 3)) (h : Ex E M Q (pc + 3) ls st (mI μ o k x)) : Ex E M Q pc ls (.int x :: .ref o :: st) μ := by
  intro p e s m args below meth c hc H locs lr hl hP hS
  have hN : o < NC := kd_lt20 (by omega)
  refine va_put hc.1 hc.2.1 hc.2.2.2.2.2.1 hin ty0 hty hnm hc.2.2.2.2.1 hc.2.2.2.2.2.2.2.1 hP (wd_D E μ) hS o (by rw [wd_get hN, ce_obj ho h1]) hc0 k hk (hc.2.2.2.2.2.1 _ hlink) (fun _ h9 => h9) hfin hpd hn hfit (by simpa using hkl) hd (fun H1 l1 hP1 hD1 hS1 => ?_)
  rw [set_range (g := fun j => sh E.2.2.2 (fp (mI μ o k x) o j)) hkl (fun j => by
    rw [fp_mI (by rw [ho]; exact hf)]
    by_cases e : j = k
    · rw [if_pos e, if_pos e]
    · rw [if_neg e, if_neg e]), wd_set (ν := mI μ o k x) hN (by rw [ce_obj ho h1]) (fun _ q => ce_mI q)] at hP1
  exact h p e s m args below meth c hc H1 l1 lr hl hP1 hS1
theorem x_putJ {o ci k N index : Nat} {C : String} {T : u_T} {ty : FieldType} {x : Int64} (ty0 : Nat → FieldType) (hty : ∀ k, k < N → parseFieldDescriptor (T k).2.2.1 = some (ty0 k)) (hnm : ∀ a, a < N → ∀ b, b < N → a ≠ b → (T a).2.1 ≠ (T b).2.1) (ho : kd o = ci) (h1 : ci < 20) (hc0 : classes[ci]? = some (C, T, N)) (hin : ∀ w ∈ u_ws C T N, w ∈ tbG) (hk : k < N) (hkl : k < ln o) (hlink : Cond.fieldLink M.1.cls index (T k).1 (T k).2.1 (T k).2.2.1 ∈ tbG) (hfin : (T k).2.2.2 = false) (hf : ft ci k = 2) (hpd : parseFieldDescriptor (T k).2.2.1 = some ty) (hn : narrow ty (.long x) = .long x) (hfit : fits ty (.long x) = true) (hd : decode M.2.1 pc = .ok (.putfield index, 3)) (h : Ex E M Q (pc + 3) ls st (mJ μ o k x)) : Ex E M Q pc ls (.long x :: .ref o :: st) μ := by
  intro p e s m args below meth c hc H locs lr hl hP hS
  have hN : o < NC := kd_lt20 (by omega)
  refine va_put hc.1 hc.2.1 hc.2.2.2.2.2.1 hin ty0 hty hnm hc.2.2.2.2.1 hc.2.2.2.2.2.2.2.1 hP (wd_D E μ) hS o (by rw [wd_get hN, ce_obj ho h1]) hc0 k hk (hc.2.2.2.2.2.1 _ hlink) (fun _ h9 => h9) hfin hpd hn hfit (by simpa using hkl) hd (fun H1 l1 hP1 hD1 hS1 => ?_)
  rw [set_range (g := fun j => sh E.2.2.2 (fp (mJ μ o k x) o j)) hkl (fun j => by
    rw [fp_mJ (by rw [ho]; exact hf)]
    by_cases e : j = k
    · rw [if_pos e, if_pos e]
    · rw [if_neg e, if_neg e]), wd_set (ν := mJ μ o k x) hN (by rw [ce_obj ho h1]) (fun _ q => ce_mJ q)] at hP1
  exact h p e s m args below meth c hc H1 l1 lr hl hP1 hS1
-- ends
theorem x_iret {x : Int32} {ty : FieldType} (hr : M.2.2.2.1 = some ty) (hn : narrow ty (.int x) = .int x) (hd : decode M.2.1 pc = .ok (.ireturn, 1)) (h : Q (some (.int x)) μ) : Ex E M Q pc ls [.int x] μ := by
  intro p e s m args below meth c hc H locs lr hl hP hS
  exact W.zret hc.1 hc.2.1 (by rw [hc.2.2.1, hr]) hn (fun t ht hW => ⟨⟨some (.int x), μ, rfl, h, by rw [ht]; exact hP⟩, hS.F ht⟩) hS.2.2 hd hc.2.2.2.2.2.2.1
theorem x_lret {x : Int64} (hr : M.2.2.2.1 = some .long) (hd : decode M.2.1 pc = .ok (.lreturn, 1)) (h : Q (some (.long x)) μ) : Ex E M Q pc ls [.long x] μ := by
  intro p e s m args below meth c hc H locs lr hl hP hS
  exact W.lret hc.1 hc.2.1 (by rw [hc.2.2.1, hr]) (fun t ht hW => ⟨⟨some (.long x), μ, rfl, h, by rw [ht]; exact hP⟩, hS.F ht⟩) hS.2.2 hd hc.2.2.2.2.2.2.1
theorem x_vret (hr : M.2.2.2.1 = none) (hd : decode M.2.1 pc = .ok (.return_, 1)) (h : Q none μ) : Ex E M Q pc ls [] μ := by
  intro p e s m args below meth c hc H locs lr hl hP hS
  exact W.vret hc.1 hc.2.1 (by rw [hc.2.2.1, hr]) (fun t ht hW => ⟨⟨none, μ, rfl, h, by rw [ht]; exact hP⟩, hS.F ht⟩) hS.2.2 hd hc.2.2.2.2.2.2.1
theorem x_aret {a : Nat} {rt : FieldType} (hr : M.2.2.2.1 = some rt) (hrt : (∃ n, rt = .object n) ∨ ∃ t, rt = .array t) (hd : decode M.2.1 pc = .ok (.areturn, 1)) (h : Q (some (.ref a)) μ) : Ex E M Q pc ls [.ref a] μ := by
  intro p e s m args below meth c hc H locs lr hl hP hS
  exact W.aret hc.1 hc.2.1 (by rw [hc.2.2.1, hr]) hrt (Or.inr ⟨_, rfl⟩) (fun t ht hW => ⟨⟨some (.ref a), μ, rfl, h, by rw [ht]; exact hP⟩, hS.F ht⟩) hS.2.2 hd hc.2.2.2.2.2.2.1
end XR
end
section
section XC
variable {E : EV} {M M' : MT} {Q Q' : Po} {pc idx : Nat} {ls : List (Nat × Value)} {st : List Value} {μ : Mem}
theorem w_call {p : Program} {e : Env} {R : Room} {s : State} {m : MethodId} {args a : Array Value} {below : List Frame} {meth : Method} {c : Code} {H : Heap} {locs : List Loc} {cells slots : Nat} {Qw : State → Prop} {lr : Array Slot} {st0 rest : List Value}
    (hr : va_Run p E.1 e R s m args below meth c H locs cells slots 0 0 (F0 m pc lr st0) rest (Qd E Q' a) (Fz E)) (hS : va_S (Fz E) s.heap H locs)
    (kk : ∀ (v : Option Value) (ν : Mem) (H1 : Heap) (locs1 : List Loc), Q' v ν → va_P E.2.1 classes (wd E ν) H1 → va_S (Fz E) s.heap H1 locs1 → W p E.1 e R s m args below meth c H1 locs1 cells slots Qw (F0 m (pc + 3) lr ((v.map (sh E.2.2.2)).toList ++ rest))) :
    W p E.1 e R s m args below meth c H locs cells slots Qw (F0 m pc lr st0) := by
  intro T hT X
  obtain ⟨v, st₀, t, T', L, h0, X', hL, e1, e2, ⟨⟨v1, ν, hv, hq, hP1⟩, hz, hk⟩, st⟩ := hr T hT X
  cases hv
  rw [h0] at hz hk
  obtain ⟨t2, a1, b1⟩ := kk v1 ν T'.heap (locs ++ L) hq (by rw [e1]; exact hP1)
    ⟨Nat.le_trans hS.1 (by rw [e1]; exact hz), fun q h1 h2 => by rw [e1, hk q (Nat.lt_of_lt_of_le h1 hS.1) h2]; exact hS.2.1 q h1 h2, fun q hq => by
      rcases List.mem_append.mp hq with h | h
      · exact hS.2.2 q h
      · exact hL q h⟩ T' rfl X'
  exact ⟨t2, st t2 a1, b1⟩
theorem pc_blind (as : List Value) : FrameBlind (va_Pc (as.map (sh E.2.2.2)) (fun U => va_P E.2.1 classes (wd E μ) U.heap ∧ va_K E.2.1 classes (tys E) U ∧ nw U)) := by
  intro a U g mk q
  obtain ⟨q0, qP, qK, qN⟩ := q
  exact ⟨q0, qP, va_K.moved (u := U) (U := U.calling g mk a) (Vm.Alike.refl U.vm) qK, nw_same (s := U) (U := U.calling g mk a) rfl qN⟩
theorem pc_pre {s : State} {H : Heap} (as : List Value) (hK : va_K E.2.1 classes (tys E) s) (hN : nw s) (hP : va_P E.2.1 classes (wd E μ) H) : ∀ U : State, U.heap = H → s.WarmedH U.vm → va_Pc (as.map (sh E.2.2.2)) (fun U => va_P E.2.1 classes (wd E μ) U.heap ∧ va_K E.2.1 classes (tys E) U ∧ nw U) (as.map (sh E.2.2.2)).toArray U :=
  fun U hU hW => ⟨rfl, by rw [hU]; exact hP, va_K.moved hW.alike hK, nw_warm hW hN⟩
theorem cat_sh (sz : Nat) (st : List Value) : ((st.map (sh sz)).map fun v => v.category).sum = (st.map fun v => v.category).sum := by
  induction st with
  | nil => rfl
  | cons v t ih =>
    show (sh sz v).category + ((t.map (sh sz)).map fun v => v.category).sum = v.category + (t.map fun v => v.category).sum
    rw [ih, sh_cat]
/-- what a call's own words are -/
def okV (own : String) (idx : Nat) (M' : MT) : Prop := GoodIn tbG (wsV own idx M'.1.cls M'.1 (mws M')) ∧ M'.1.cls ≠ "java/lang/invoke/MethodHandle" ∧ M'.1.cls ≠ "java/lang/invoke/VarHandle"
def okS (own : String) (idx : Nat) (M' : MT) : Prop := Cond.code M'.1 M'.2.1 M'.2.2.1 M'.2.2.2.1 ∈ tbG ∧ Cond.methodLink own idx M'.1 ∈ tbG ∧ Cond.static M'.1 ∈ tbG ∧ Cond.initialized M'.1.cls ∈ tbG ∧ M'.1.cls ≠ "java/lang/invoke/MethodHandle" ∧ M'.1.cls ≠ "java/lang/invoke/VarHandle"
theorem okV.of {own : String} (h0 : Cond.code M'.1 M'.2.1 M'.2.2.1 M'.2.2.2.1 ∈ tbG) (h1 : Cond.methodLink own idx M'.1 ∈ tbG) (h2 : Cond.instanceMethod M'.1 ∈ tbG) (h3 : Cond.selects M'.1.cls M'.1 M'.1 ∈ tbG) (h4 : Cond.initialized M'.1.cls ∈ tbG) (h5 : M'.1.cls ≠ "java/lang/invoke/MethodHandle") (h6 : M'.1.cls ≠ "java/lang/invoke/VarHandle") : okV own idx M' := by
  refine ⟨fun w hw => ?_, h5, h6⟩
  unfold wsV at hw
  rcases List.mem_append.mp hw with q | q
  · rcases List.mem_cons.mp q with rfl | q
    · exact ⟨h1, tb_good h1⟩
    rcases List.mem_cons.mp q with rfl | q
    · exact ⟨h2, tb_good h2⟩
    rcases List.mem_cons.mp q with rfl | q
    · exact ⟨h3, tb_good h3⟩
    rcases List.mem_cons.mp q with rfl | q
    · exact ⟨h4, tb_good h4⟩
    · cases q
  · exact mws_good h0 w q
theorem x_callV {as : List Value} {o ci : Nat} {own : String} (hw : M.1.cls = own) (ok : okV own idx M') (hn : (parseMethodDescriptor M'.1.desc).map (fun d => d.parameters.length) = some as.length) (hR : M'.2.2.2.2.1 + 1 ≤ M.2.2.2.2.1 ∧ 8 + (M'.2.2.1 + 11) + M'.2.2.2.2.2 ≤ M.2.2.2.2.2) (ho : kd o = ci) (h1 : ci < 20) (hcl : (classes[ci]?).map (fun q => q.1) = some M'.1.cls) (hst : (st.map fun v => v.category).sum ≤ 8) (hd : decode M.2.1 pc = .ok (.invokevirtual idx, 3))
    (h : Sp E M' (.ref o :: as) μ (fun v ν => Ex E M Q (pc + 3) ls (v.toList ++ st) ν)) : Ex E M Q pc ls (as.reverse ++ .ref o :: st) μ := by
  intro p e s m args below meth c hc H locs lr hl hP hS
  subst hw
  obtain ⟨hx, hb, hr, hml, hown, hts, hlk, hK, hN⟩ := hc
  obtain ⟨q, hq, hqc⟩ := Option.map_eq_some_iff.mp hcl
  have hno : o < NC := kd_lt20 (by omega)
  have hrec := va_recv (q0 := o) hK hP hq (by rw [wd_get hno, ce_obj ho h1])
  rw [hqc] at hrec
  refine w_call (va_runV (As := as.map (sh E.2.2.2)) (rest := st.map (sh E.2.2.2)) (b := E.2.2.2 + o) ⟨hx, hb, hml, hown, hts⟩ h (cwV as.length hts ok.1 rfl rfl rfl ⟨rfl, ok.2.1, ok.2.2, hn⟩ hR) ⟨pc_blind (.ref o :: as), hrec, pc_pre (.ref o :: as) hK hN hP⟩ rfl (List.length_map _) hl.1 (by simp [sh]) (lv_room (by rw [cat_sh]; exact hst)) hd ⟨Nat.le_refl _, Nat.le_refl _⟩) hS (fun v ν H1 l1 hQ hP1 hS1 => ?_)
  have h9 := hQ p e s m args below meth c ⟨hx, hb, hr, hml, hown, hts, hlk, hK, hN⟩ H1 l1 lr hl hP1 hS1
  rw [List.map_append] at h9
  cases v with
  | none => exact h9
  | some v => exact h9
theorem x_callS {as : List Value} {own : String} (hw : M.1.cls = own) (ok : okS own idx M') (hn : (parseMethodDescriptor M'.1.desc).map (fun d => d.parameters.length) = some as.length) (hR : M'.2.2.2.2.1 + 1 ≤ M.2.2.2.2.1 ∧ 8 + (M'.2.2.1 + 11) + M'.2.2.2.2.2 ≤ M.2.2.2.2.2) (hst : (st.map fun v => v.category).sum ≤ 8) (hd : decode M.2.1 pc = .ok (.invokestatic idx, 3))
    (h : Sp E M' as μ (fun v ν => Ex E M Q (pc + 3) ls (v.toList ++ st) ν)) : Ex E M Q pc ls (as.reverse ++ st) μ := by
  intro p e s m args below meth c hc H locs lr hl hP hS
  subst hw
  obtain ⟨hx, hb, hr, hml, hown, hts, hlk, hK, hN⟩ := hc
  refine w_call (va_runS (As := as.map (sh E.2.2.2)) (rest := st.map (sh E.2.2.2)) ⟨hx, hb, hml, hown, hts⟩ h ⟨callB_of as.length hts (mws_good ok.1) rfl rfl rfl (hts _ ok.2.2.2.1) (hts _ ok.2.1) ⟨ok.2.2.2.2.1, ok.2.2.2.2.2, hn⟩ hR, hts _ ok.2.2.1⟩ ⟨pc_blind as, pc_pre as hK hN hP⟩ rfl (List.length_map _) hl.1 (by simp) (lv_room (by rw [cat_sh]; exact hst)) hd ⟨Nat.le_refl _, Nat.le_refl _⟩) hS (fun v ν H1 l1 hQ hP1 hS1 => ?_)
  have h9 := hQ p e s m args below meth c ⟨hx, hb, hr, hml, hown, hts, hlk, hK, hN⟩ H1 l1 lr hl hP1 hS1
  rw [List.map_append] at h9
  cases v with
  | none => exact h9
  | some v => exact h9
theorem x_callSN {as : List Value} {own host : String} (hw : M.1.cls = own) (hnw : ∀ s, nw s → va_Nw (.methodLinkNest own idx M'.1 host) s) (h0 : Cond.code M'.1 M'.2.1 M'.2.2.1 M'.2.2.2.1 ∈ tbG) (h1 : Cond.static M'.1 ∈ tbG) (h2 : Cond.initialized M'.1.cls ∈ tbG) (h3 : M'.1.cls ≠ "java/lang/invoke/MethodHandle") (h4 : M'.1.cls ≠ "java/lang/invoke/VarHandle") (hn : (parseMethodDescriptor M'.1.desc).map (fun d => d.parameters.length) = some as.length) (hR : M'.2.2.2.2.1 + 1 ≤ M.2.2.2.2.1 ∧ 8 + (M'.2.2.1 + 11) + M'.2.2.2.2.2 ≤ M.2.2.2.2.2) (hst : (st.map fun v => v.category).sum ≤ 8) (hd : decode M.2.1 pc = .ok (.invokestatic idx, 3))
    (h : Sp E M' as μ (fun v ν => Ex E M Q (pc + 3) ls (v.toList ++ st) ν)) : Ex E M Q pc ls (as.reverse ++ st) μ := by
  intro p e s m args below meth c hc H locs lr hl hP hS
  subst hw
  obtain ⟨hx, hb, hr, hml, hown, hts, hlk, hK, hN⟩ := hc
  refine w_call (va_runSN (As := as.map (sh E.2.2.2)) (rest := st.map (sh E.2.2.2)) ⟨hx, hb, hml, hown, hts⟩ h ⟨va_cnB as.length hts (mws_good h0) rfl rfl rfl (hnw s hN) (hts _ h2) ⟨h3, h4, hn⟩ hR, hts _ h1, trivial⟩ ⟨pc_blind as, pc_pre as hK hN hP⟩ rfl (List.length_map _) hl.1 (by simp) (lv_room (by rw [cat_sh]; exact hst)) hd ⟨Nat.le_refl _, Nat.le_refl _⟩) hS (fun v ν H1 l1 hQ hP1 hS1 => ?_)
  have h9 := hQ p e s m args below meth c ⟨hx, hb, hr, hml, hown, hts, hlk, hK, hN⟩ H1 l1 lr hl hP1 hS1
  rw [List.map_append] at h9
  cases v with
  | none => exact h9
  | some v => exact h9
/-- System.arraycopy, ints -/
def mCI (μ : Mem) (a i b j n : Nat) : Mem := (fun c k => if c = b ∧ (j ≤ k ∧ k < j + n) then μ.1 a (i + (k - j)) else μ.1 c k, μ.2)
def mCJ (μ : Mem) (a i b j n : Nat) : Mem := (μ.1, fun c k => if c = b ∧ (j ≤ k ∧ k < j + n) then μ.2 a (i + (k - j)) else μ.2 c k)
theorem mCI_eq (a i b j n : Nat) : va_cpy (μ.1 a) (μ.1 b) i j n = (mCI μ a i b j n).1 b := by
  funext k
  by_cases h : j ≤ k ∧ k < j + n
  · rw [pk_cpy_in h.1 h.2]; simp [mCI, h]
  · rw [pk_cpy_out (by omega)]; simp [mCI, h]
theorem mCJ_eq (a i b j n : Nat) : va_cpy (μ.2 a) (μ.2 b) i j n = (mCJ μ a i b j n).2 b := by
  funext k
  by_cases h : j ≤ k ∧ k < j + n
  · rw [pk_cpy_in h.1 h.2]; simp [mCJ, h]
  · rw [pk_cpy_out (by omega)]; simp [mCJ, h]
theorem mCI_ne {a i b j n c : Nat} (h : c ≠ b) : (mCI μ a i b j n).1 c = μ.1 c := by
  funext k
  simp [mCI, h]
theorem mCJ_ne {a i b j n c : Nat} (h : c ≠ b) : (mCJ μ a i b j n).2 c = μ.2 c := by
  funext k
  simp [mCJ, h]
theorem x_copyI {a b : Nat} {sp dp n : Int32} {own : String} (hw : M.1.cls = own) (hlink : Cond.methodLink own idx arraycopyName ∈ tbG) (hnat : Cond.native arraycopyName ∈ tbG) (hstat : Cond.static arraycopyName ∈ tbG) (hini : Cond.initialized "java/lang/System" ∈ tbG) (ha : kd a = 20) (hb0 : kd b = 20) (h1 : ¬ sp < 0) (h2 : ¬ dp < 0) (h3 : ¬ n < 0) (h4 : sp.toNatClampNeg + n.toNatClampNeg ≤ ln a) (h5 : dp.toNatClampNeg + n.toNatClampNeg ≤ ln b) (hfr : 1 ≤ M.2.2.2.2.1) (hlo : (st.map fun v => v.category).sum + (nativeFrameWords "java/lang/System" "arraycopy" 5 + 11) ≤ M.2.2.2.2.2) (hd : decode M.2.1 pc = .ok (.invokestatic idx, 3))
    (h : Ex E M Q (pc + 3) ls st (mCI μ a sp.toNatClampNeg b dp.toNatClampNeg n.toNatClampNeg)) : Ex E M Q pc ls (.int n :: .int dp :: .ref b :: .int sp :: .ref a :: st) μ := by
  intro p e s m args below meth c hc H locs lr hl hP hS
  subst hw
  obtain ⟨hx, hb, hr, hml, hown, hts, hlk, hK, hN⟩ := id hc
  have hnb : b < NC := kd_lt20 (by omega)
  refine va_copyi hx hb (hml.trans hl.1.symm) hown (hts _ hlink) (hts _ hnat) (hts _ hstat) (hts _ hini) hK hP (wd_D E μ) hS a b 0 0 (by rw [wd_get (kd_lt20 (by omega)), ce_int ha]) (by rw [wd_get hnb, ce_int hb0]) rfl rfl rfl h1 h2 h3 h4 h5 (fun _ _ => rfl) hfr (by rw [cat_sh]; exact hlo) hd (fun H1 l1 hP1 hD1 hS1 => ?_)
  rw [wd_set (E := E) (μ := μ) (ν := mCI μ a sp.toNatClampNeg b dp.toNatClampNeg n.toNatClampNeg) hnb (by rw [ce_int hb0, mCI_eq]) (fun _ q => ce_congr (mCI_ne q) rfl)] at hP1
  exact h p e s m args below meth c hc H1 l1 lr hl hP1 hS1
theorem x_copyJ {a b : Nat} {sp dp n : Int32} {own : String} (hw : M.1.cls = own) (hlink : Cond.methodLink own idx arraycopyName ∈ tbG) (hnat : Cond.native arraycopyName ∈ tbG) (hstat : Cond.static arraycopyName ∈ tbG) (hini : Cond.initialized "java/lang/System" ∈ tbG) (ha : kd a = 21) (hb0 : kd b = 21) (h1 : ¬ sp < 0) (h2 : ¬ dp < 0) (h3 : ¬ n < 0) (h4 : sp.toNatClampNeg + n.toNatClampNeg ≤ ln a) (h5 : dp.toNatClampNeg + n.toNatClampNeg ≤ ln b) (hfr : 1 ≤ M.2.2.2.2.1) (hlo : (st.map fun v => v.category).sum + (nativeFrameWords "java/lang/System" "arraycopy" 5 + 11) ≤ M.2.2.2.2.2) (hd : decode M.2.1 pc = .ok (.invokestatic idx, 3))
    (h : Ex E M Q (pc + 3) ls st (mCJ μ a sp.toNatClampNeg b dp.toNatClampNeg n.toNatClampNeg)) : Ex E M Q pc ls (.int n :: .int dp :: .ref b :: .int sp :: .ref a :: st) μ := by
  intro p e s m args below meth c hc H locs lr hl hP hS
  subst hw
  obtain ⟨hx, hb, hr, hml, hown, hts, hlk, hK, hN⟩ := id hc
  have hnb : b < NC := kd_lt20 (by omega)
  refine va_copyl hx hb (hml.trans hl.1.symm) hown (hts _ hlink) (hts _ hnat) (hts _ hstat) (hts _ hini) hK hP (wd_D E μ) hS a b 1 1 (by rw [wd_get (kd_lt20 (by omega)), ce_long ha]) (by rw [wd_get hnb, ce_long hb0]) rfl rfl rfl h1 h2 h3 h4 h5 (fun _ _ => rfl) hfr (by rw [cat_sh]; exact hlo) hd (fun H1 l1 hP1 hD1 hS1 => ?_)
  rw [wd_set (E := E) (μ := μ) (ν := mCJ μ a sp.toNatClampNeg b dp.toNatClampNeg n.toNatClampNeg) hnb (by rw [ce_long hb0, mCJ_eq]) (fun _ q => ce_congr rfl (mCJ_ne q))] at hP1
  exact h p e s m args below meth c hc H1 l1 lr hl hP1 hS1
end XC
end
section
theorem dk {l : List (Nat × Instr × Nat)} {c : ByteArray} (h : (l.all fun q => decide (decode c q.1 = .ok q.2)) = true) (i : Nat) {pc : Nat} {t : Instr} {n : Nat} (hi : l[i]? = some (pc, t, n)) : decode c pc = .ok (t, n) := by
  have h1 := List.all_eq_true.mp h (pc, t, n) (List.mem_of_getElem? hi)
  simp only [decide_eq_true_eq] at h1
  exact h1
def tJ7_fill_53178 : List (Nat × Instr × Nat) := [(0, .iconst 0, 1), (1, .istore_n 2, 1), (2, .aload_n 0, 1), (3, .arraylength, 1), (4, .istore_n 3, 1), (5, .iload_n 2, 1), (6, .iload_n 3, 1), (7, .if_icmp .ge 13, 3), (10, .aload_n 0, 1), (11, .iload_n 2, 1), (12, .iload_n 1, 1), (13, .iastore, 1), (14, .iinc 2 1, 3), (17, .goto (-12), 3), (20, .return_, 1)]
theorem zJ7_fill_53178 : (tJ7_fill_53178.all fun q => decide (decode cJ7_fill_53178 q.1 = .ok q.2)) = true := by decide +kernel
def tX3_gatesTold : List (Nat × Instr × Nat) := [(0, .aload_n 0, 1), (1, .getfield 35, 3), (4, .ireturn, 1)]
theorem zX3_gatesTold : (tX3_gatesTold.all fun q => decide (decode cX3_gatesTold q.1 = .ok q.2)) = true := by decide +kernel
def tX3_from : List (Nat × Instr × Nat) := [(0, .iload_n 1, 1), (1, .ifCond .lt 18, 3), (4, .iload_n 1, 1), (5, .bipush 18, 2), (7, .if_icmp .ge 12, 3), (10, .aload_n 0, 1), (11, .getfield 9, 3), (14, .iload_n 1, 1), (15, .iaload, 1), (16, .goto 4, 3), (19, .iconst (-1), 1), (20, .ireturn, 1)]
theorem zX3_from : (tX3_from.all fun q => decide (decode cX3_from q.1 = .ok q.2)) = true := by decide +kernel
def tX3_to : List (Nat × Instr × Nat) := [(0, .iload_n 1, 1), (1, .ifCond .lt 20, 3), (4, .iload_n 1, 1), (5, .bipush 18, 2), (7, .if_icmp .ge 14, 3), (10, .aload_n 0, 1), (11, .getfield 9, 3), (14, .iload_n 1, 1), (15, .iconst 1, 1), (16, .ixor, 1), (17, .iaload, 1), (18, .goto 4, 3), (21, .iconst (-1), 1), (22, .ireturn, 1)]
theorem zX3_to : (tX3_to.all fun q => decide (decode cX3_to q.1 = .ok q.2)) = true := by decide +kernel
def tX0_link : List (Nat × Instr × Nat) := [(0, .iload_n 1, 1), (1, .ifCond .lt 43, 3), (4, .iload_n 1, 1), (5, .bipush 8, 2), (7, .if_icmp .ge 37, 3), (10, .iload_n 2, 1), (11, .ifCond .lt 33, 3), (14, .iload_n 2, 1), (15, .bipush 8, 2), (17, .if_icmp .ge 27, 3), (20, .aload_n 0, 1), (21, .getfield 16, 3), (24, .iload_n 1, 1), (25, .dup2, 1), (26, .iaload, 1), (27, .iconst 1, 1), (28, .iload_n 2, 1), (29, .ishl, 1), (30, .ior, 1), (31, .iastore, 1), (32, .aload_n 0, 1), (33, .getfield 16, 3), (36, .iload_n 2, 1), (37, .dup2, 1), (38, .iaload, 1), (39, .iconst 1, 1), (40, .iload_n 1, 1), (41, .ishl, 1), (42, .ior, 1), (43, .iastore, 1), (44, .return_, 1)]
theorem zX0_link : (tX0_link.all fun q => decide (decode cX0_link q.1 = .ok q.2)) = true := by decide +kernel
def tX0_layOut : List (Nat × Instr × Nat) := [(0, .aload_n 0, 1), (1, .getfield 16, 3), (4, .iconst 0, 1), (5, .invokestatic 52, 3), (8, .iconst 0, 1), (9, .istore_n 3, 1), (10, .iload_n 3, 1), (11, .aload_n 1, 1), (12, .invokevirtual 58, 3), (15, .if_icmp .ge 36, 3), (18, .iload_n 2, 1), (19, .iload_n 3, 1), (20, .ishr, 1), (21, .iconst 1, 1), (22, .iand, 1), (23, .iconst 1, 1), (24, .if_icmp .ne 21, 3), (27, .aload_n 0, 1), (28, .aload_n 1, 1), (29, .iconst 2, 1), (30, .iload_n 3, 1), (31, .imul, 1), (32, .invokevirtual 64, 3), (35, .aload_n 1, 1), (36, .iconst 2, 1), (37, .iload_n 3, 1), (38, .imul, 1), (39, .invokevirtual 67, 3), (42, .invokevirtual 31, 3), (45, .iinc 3 1, 3), (48, .goto (-38), 3), (51, .return_, 1)]
theorem zX0_layOut : (tX0_layOut.all fun q => decide (decode cX0_layOut q.1 = .ok q.2)) = true := by decide +kernel
def tX0_spread : List (Nat × Instr × Nat) := [(0, .aload_n 0, 1), (1, .getfield 11, 3), (4, .iload_n 1, 1), (5, .aaload, 1), (6, .astore_n 2, 1), (7, .aload_n 2, 1), (8, .iconst (-1), 1), (9, .invokestatic 52, 3), (12, .aload_n 2, 1), (13, .iload_n 1, 1), (14, .iconst 0, 1), (15, .iastore, 1), (16, .aload_n 0, 1), (17, .getfield 20, 3), (20, .iconst 0, 1), (21, .iload_n 1, 1), (22, .iastore, 1), (23, .iconst 1, 1), (24, .istore_n 3, 1), (25, .iconst 1, 1), (26, .iload_n 1, 1), (27, .ishl, 1), (28, .istore 4, 2), (30, .iconst 0, 1), (31, .istore 5, 2), (33, .iload 5, 2), (35, .iload_n 3, 1), (36, .if_icmp .ge 108, 3), (39, .iload 5, 2), (41, .bipush 8, 2), (43, .if_icmp .ge 101, 3), (46, .aload_n 0, 1), (47, .getfield 20, 3), (50, .iload 5, 2), (52, .iaload, 1), (53, .istore 6, 2), (55, .aload_n 0, 1), (56, .getfield 16, 3), (59, .iload 6, 2), (61, .iaload, 1), (62, .iload 4, 2), (64, .iconst (-1), 1), (65, .ixor, 1), (66, .iand, 1), (67, .istore 7, 2), (69, .iload 4, 2), (71, .iload 7, 2), (73, .ior, 1), (74, .istore 4, 2), (76, .iconst 0, 1), (77, .istore 8, 2), (79, .iload 8, 2), (81, .bipush 8, 2), (83, .if_icmp .ge 55, 3), (86, .iload 7, 2), (88, .iload 8, 2), (90, .ishr, 1), (91, .ifCond .eq 47, 3), (94, .iload 7, 2), (96, .iload 8, 2), (98, .ishr, 1), (99, .iconst 1, 1), (100, .iand, 1), (101, .iconst 1, 1), (102, .if_icmp .ne 30, 3), (105, .iload_n 3, 1), (106, .bipush 8, 2), (108, .if_icmp .ge 24, 3), (111, .aload_n 2, 1), (112, .iload 8, 2), (114, .aload_n 2, 1), (115, .iload 6, 2), (117, .iaload, 1), (118, .iconst 1, 1), (119, .iadd, 1), (120, .iastore, 1), (121, .aload_n 0, 1), (122, .getfield 20, 3), (125, .iload_n 3, 1), (126, .iload 8, 2), (128, .iastore, 1), (129, .iinc 3 1, 3), (132, .iinc 8 1, 3), (135, .goto (-56), 3), (138, .iinc 5 1, 3), (141, .goto (-108), 3), (144, .return_, 1)]
theorem zX0_spread : (tX0_spread.all fun q => decide (decode cX0_spread q.1 = .ok q.2)) = true := by decide +kernel
def tX0_measure : List (Nat × Instr × Nat) := [(0, .aload_n 0, 1), (1, .aload_n 1, 1), (2, .iload_n 2, 1), (3, .invokevirtual 23, 3), (6, .iconst 0, 1), (7, .istore_n 3, 1), (8, .iload_n 3, 1), (9, .bipush 8, 2), (11, .if_icmp .ge 14, 3), (14, .aload_n 0, 1), (15, .iload_n 3, 1), (16, .invokevirtual 27, 3), (19, .iinc 3 1, 3), (22, .goto (-14), 3), (25, .return_, 1)]
theorem zX0_measure : (tX0_measure.all fun q => decide (decode cX0_measure q.1 = .ok q.2)) = true := by decide +kernel
def tX0_measureLinked : List (Nat × Instr × Nat) := [(0, .aload_n 0, 1), (1, .aload_n 1, 1), (2, .iload_n 2, 1), (3, .invokevirtual 23, 3), (6, .aload_n 0, 1), (7, .iload_n 3, 1), (8, .iload 4, 2), (10, .invokevirtual 31, 3), (13, .iconst 0, 1), (14, .istore 5, 2), (16, .iload 5, 2), (18, .bipush 8, 2), (20, .if_icmp .ge 15, 3), (23, .aload_n 0, 1), (24, .iload 5, 2), (26, .invokevirtual 27, 3), (29, .iinc 5 1, 3), (32, .goto (-16), 3), (35, .return_, 1)]
theorem zX0_measureLinked : (tX0_measureLinked.all fun q => decide (decode cX0_measureLinked q.1 = .ok q.2)) = true := by decide +kernel
def tX10_isTown : List (Nat × Instr × Nat) := [(0, .iload_n 0, 1), (1, .ifCond .lt 13, 3), (4, .iload_n 0, 1), (5, .bipush 8, 2), (7, .if_icmp .ge 7, 3), (10, .iconst 1, 1), (11, .goto 4, 3), (14, .iconst 0, 1), (15, .ireturn, 1)]
theorem zX10_isTown : (tX10_isTown.all fun q => decide (decode cX10_isTown q.1 = .ok q.2)) = true := by decide +kernel
def tX0_measureFrom : List (Nat × Instr × Nat) := [(0, .aload_n 0, 1), (1, .aload_n 1, 1), (2, .iload_n 2, 1), (3, .invokevirtual 23, 3), (6, .iload_n 3, 1), (7, .invokestatic 35, 3), (10, .ifCond .eq 8, 3), (13, .aload_n 0, 1), (14, .iload_n 3, 1), (15, .invokevirtual 27, 3), (18, .return_, 1)]
theorem zX0_measureFrom : (tX0_measureFrom.all fun q => decide (decode cX0_measureFrom q.1 = .ok q.2)) = true := by decide +kernel
def tX0_between : List (Nat × Instr × Nat) := [(0, .iload_n 1, 1), (1, .invokestatic 35, 3), (4, .ifCond .eq 21, 3), (7, .iload_n 2, 1), (8, .invokestatic 35, 3), (11, .ifCond .eq 14, 3), (14, .aload_n 0, 1), (15, .getfield 11, 3), (18, .iload_n 1, 1), (19, .aaload, 1), (20, .iload_n 2, 1), (21, .iaload, 1), (22, .goto 4, 3), (25, .iconst (-1), 1), (26, .ireturn, 1)]
theorem zX0_between : (tX0_between.all fun q => decide (decode cX0_between q.1 = .ok q.2)) = true := by decide +kernel
def tX0_reachedFrom : List (Nat × Instr × Nat) := [(0, .iconst 0, 1), (1, .istore_n 2, 1), (2, .iconst 0, 1), (3, .istore_n 3, 1), (4, .iload_n 3, 1), (5, .bipush 8, 2), (7, .if_icmp .ge 25, 3), (10, .aload_n 0, 1), (11, .iload_n 1, 1), (12, .iload_n 3, 1), (13, .invokevirtual 39, 3), (16, .iconst (-1), 1), (17, .if_icmp .eq 9, 3), (20, .iload_n 2, 1), (21, .iconst 1, 1), (22, .iload_n 3, 1), (23, .ishl, 1), (24, .ior, 1), (25, .istore_n 2, 1), (26, .iinc 3 1, 3), (29, .goto (-25), 3), (32, .iload_n 2, 1), (33, .ireturn, 1)]
theorem zX0_reachedFrom : (tX0_reachedFrom.all fun q => decide (decode cX0_reachedFrom q.1 = .ok q.2)) = true := by decide +kernel
def tX0_pairsUnlike : List (Nat × Instr × Nat) := [(0, .iconst 0, 1), (1, .istore_n 2, 1), (2, .iconst 0, 1), (3, .istore_n 3, 1), (4, .iload_n 3, 1), (5, .bipush 8, 2), (7, .if_icmp .ge 49, 3), (10, .iload_n 3, 1), (11, .iconst 1, 1), (12, .iadd, 1), (13, .istore 4, 2), (15, .iload 4, 2), (17, .bipush 8, 2), (19, .if_icmp .ge 31, 3), (22, .aload_n 0, 1), (23, .getfield 11, 3), (26, .iload_n 3, 1), (27, .aaload, 1), (28, .iload 4, 2), (30, .iaload, 1), (31, .aload_n 1, 1), (32, .iload_n 3, 1), (33, .iload 4, 2), (35, .invokevirtual 39, 3), (38, .if_icmp .eq 6, 3), (41, .iinc 2 1, 3), (44, .iinc 4 1, 3), (47, .goto (-32), 3), (50, .iinc 3 1, 3), (53, .goto (-49), 3), (56, .iload_n 2, 1), (57, .ireturn, 1)]
theorem zX0_pairsUnlike : (tX0_pairsUnlike.all fun q => decide (decode cX0_pairsUnlike q.1 = .ok q.2)) = true := by decide +kernel
def tJ9_abs_0f7a4 : List (Nat × Instr × Nat) := [(0, .iload_n 0, 1), (1, .ifCond .ge 8, 3), (4, .iload_n 0, 1), (5, .ineg, 1), (6, .goto 4, 3), (9, .iload_n 0, 1), (10, .ireturn, 1)]
theorem zJ9_abs_0f7a4 : (tJ9_abs_0f7a4.all fun q => decide (decode cJ9_abs_0f7a4 q.1 = .ok q.2)) = true := by decide +kernel
def tJ9_max_7cf53 : List (Nat × Instr × Nat) := [(0, .iload_n 0, 1), (1, .iload_n 1, 1), (2, .if_icmp .lt 7, 3), (5, .iload_n 0, 1), (6, .goto 4, 3), (9, .iload_n 1, 1), (10, .ireturn, 1)]
theorem zJ9_max_7cf53 : (tJ9_max_7cf53.all fun q => decide (decode cJ9_max_7cf53 q.1 = .ok q.2)) = true := by decide +kernel
def tX0_mostUnlike : List (Nat × Instr × Nat) := [(0, .iconst 0, 1), (1, .istore_n 2, 1), (2, .iconst 0, 1), (3, .istore_n 3, 1), (4, .iload_n 3, 1), (5, .bipush 8, 2), (7, .if_icmp .ge 72, 3), (10, .iload_n 3, 1), (11, .iconst 1, 1), (12, .iadd, 1), (13, .istore 4, 2), (15, .iload 4, 2), (17, .bipush 8, 2), (19, .if_icmp .ge 54, 3), (22, .aload_n 0, 1), (23, .getfield 11, 3), (26, .iload_n 3, 1), (27, .aaload, 1), (28, .iload 4, 2), (30, .iaload, 1), (31, .istore 5, 2), (33, .aload_n 1, 1), (34, .iload_n 3, 1), (35, .iload 4, 2), (37, .invokevirtual 39, 3), (40, .istore 6, 2), (42, .iload 5, 2), (44, .iconst (-1), 1), (45, .if_icmp .eq 22, 3), (48, .iload 6, 2), (50, .iconst (-1), 1), (51, .if_icmp .eq 16, 3), (54, .iload_n 2, 1), (55, .iload 5, 2), (57, .iload 6, 2), (59, .isub, 1), (60, .invokestatic 43, 3), (63, .invokestatic 49, 3), (66, .istore_n 2, 1), (67, .iinc 4 1, 3), (70, .goto (-55), 3), (73, .iinc 3 1, 3), (76, .goto (-72), 3), (79, .iload_n 2, 1), (80, .ireturn, 1)]
theorem zX0_mostUnlike : (tX0_mostUnlike.all fun q => decide (decode cX0_mostUnlike q.1 = .ok q.2)) = true := by decide +kernel
def tX3_openLanes : List (Nat × Instr × Nat) := [(0, .iconst 1, 1), (1, .aload_n 0, 1), (2, .getfield 35, 3), (5, .ishl, 1), (6, .iconst 1, 1), (7, .isub, 1), (8, .aload_n 0, 1), (9, .getfield 59, 3), (12, .iconst (-1), 1), (13, .ixor, 1), (14, .iand, 1), (15, .aload_n 0, 1), (16, .getfield 38, 3), (19, .iconst (-1), 1), (20, .ixor, 1), (21, .iand, 1), (22, .ireturn, 1)]
theorem zX3_openLanes : (tX3_openLanes.all fun q => decide (decode cX3_openLanes q.1 = .ok q.2)) = true := by decide +kernel
def tX1_setOut : List (Nat × Instr × Nat) := [(0, .aload_n 0, 1), (1, .getfield 12, 3), (4, .aload_n 0, 1), (5, .getfield 25, 3), (8, .aload_n 0, 1), (9, .getfield 25, 3), (12, .invokevirtual 46, 3), (15, .invokevirtual 49, 3), (18, .iconst 0, 1), (19, .istore_n 2, 1), (20, .iload_n 2, 1), (21, .bipush 8, 2), (23, .if_icmp .ge 37, 3), (26, .aload_n 0, 1), (27, .getfield 12, 3), (30, .iload_n 1, 1), (31, .iload_n 2, 1), (32, .invokevirtual 53, 3), (35, .istore_n 3, 1), (36, .aload_n 0, 1), (37, .getfield 18, 3), (40, .iload_n 2, 1), (41, .iload_n 3, 1), (42, .iconst (-1), 1), (43, .if_icmp .ne 9, 3), (46, .sipush 1000, 3), (49, .goto 4, 3), (52, .iload_n 3, 1), (53, .iastore, 1), (54, .iinc 2 1, 3), (57, .goto (-37), 3), (60, .return_, 1)]
theorem zX1_setOut : (tX1_setOut.all fun q => decide (decode cX1_setOut q.1 = .ok q.2)) = true := by decide +kernel
def tX3_roomTold : List (Nat × Instr × Nat) := [(0, .aload_n 0, 1), (1, .getfield 15, 3), (4, .ireturn, 1)]
theorem zX3_roomTold : (tX3_roomTold.all fun q => decide (decode cX3_roomTold q.1 = .ok q.2)) = true := by decide +kernel
def tX1_reached : List (Nat × Instr × Nat) := [(0, .iconst 0, 1), (1, .istore_n 1, 1), (2, .iconst 0, 1), (3, .istore_n 2, 1), (4, .iload_n 2, 1), (5, .bipush 8, 2), (7, .if_icmp .ge 27, 3), (10, .aload_n 0, 1), (11, .getfield 18, 3), (14, .iload_n 2, 1), (15, .iaload, 1), (16, .sipush 1000, 3), (19, .if_icmp .ge 9, 3), (22, .iload_n 1, 1), (23, .iconst 1, 1), (24, .iload_n 2, 1), (25, .ishl, 1), (26, .ior, 1), (27, .istore_n 1, 1), (28, .iinc 2 1, 3), (31, .goto (-27), 3), (34, .iload_n 1, 1), (35, .ireturn, 1)]
theorem zX1_reached : (tX1_reached.all fun q => decide (decode cX1_reached q.1 = .ok q.2)) = true := by decide +kernel
def tX3_letters : List (Nat × Instr × Nat) := [(0, .iconst 2, 1), (1, .aload_n 0, 1), (2, .getfield 35, 3), (5, .imul, 1), (6, .ireturn, 1)]
theorem zX3_letters : (tX3_letters.all fun q => decide (decode cX3_letters q.1 = .ok q.2)) = true := by decide +kernel
def tX3_isOpen : List (Nat × Instr × Nat) := [(0, .iload_n 1, 1), (1, .ifCond .lt 20, 3), (4, .aload_n 0, 1), (5, .getfield 59, 3), (8, .iload_n 1, 1), (9, .iconst 1, 1), (10, .ishr, 1), (11, .ishr, 1), (12, .iconst 1, 1), (13, .iand, 1), (14, .ifCond .ne 7, 3), (17, .iconst 1, 1), (18, .goto 4, 3), (21, .iconst 0, 1), (22, .ireturn, 1)]
theorem zX3_isOpen : (tX3_isOpen.all fun q => decide (decode cX3_isOpen q.1 = .ok q.2)) = true := by decide +kernel
def tX3_isWatched : List (Nat × Instr × Nat) := [(0, .iload_n 1, 1), (1, .ifCond .lt 21, 3), (4, .aload_n 0, 1), (5, .getfield 38, 3), (8, .iload_n 1, 1), (9, .iconst 1, 1), (10, .ishr, 1), (11, .ishr, 1), (12, .iconst 1, 1), (13, .iand, 1), (14, .iconst 1, 1), (15, .if_icmp .ne 7, 3), (18, .iconst 1, 1), (19, .goto 4, 3), (22, .iconst 0, 1), (23, .ireturn, 1)]
theorem zX3_isWatched : (tX3_isWatched.all fun q => decide (decode cX3_isWatched q.1 = .ok q.2)) = true := by decide +kernel
def tJ9_min_7cf53 : List (Nat × Instr × Nat) := [(0, .iload_n 0, 1), (1, .iload_n 1, 1), (2, .if_icmp .gt 7, 3), (5, .iload_n 0, 1), (6, .goto 4, 3), (9, .iload_n 1, 1), (10, .ireturn, 1)]
theorem zJ9_min_7cf53 : (tJ9_min_7cf53.all fun q => decide (decode cJ9_min_7cf53 q.1 = .ok q.2)) = true := by decide +kernel
def tX1_comeNearer : List (Nat × Instr × Nat) := [(0, .iload_n 2, 1), (1, .aload_n 0, 1), (2, .getfield 18, 3), (5, .iload_n 1, 1), (6, .iaload, 1), (7, .if_icmp .lt 5, 3), (10, .iconst 0, 1), (11, .ireturn, 1), (12, .iconst 0, 1), (13, .istore_n 3, 1), (14, .iload_n 3, 1), (15, .bipush 8, 2), (17, .if_icmp .ge 45, 3), (20, .aload_n 0, 1), (21, .getfield 12, 3), (24, .iload_n 1, 1), (25, .iload_n 3, 1), (26, .invokevirtual 53, 3), (29, .istore 4, 2), (31, .iload 4, 2), (33, .iconst (-1), 1), (34, .if_icmp .eq 22, 3), (37, .aload_n 0, 1), (38, .getfield 18, 3), (41, .iload_n 3, 1), (42, .aload_n 0, 1), (43, .getfield 18, 3), (46, .iload_n 3, 1), (47, .iaload, 1), (48, .iload_n 2, 1), (49, .iload 4, 2), (51, .iadd, 1), (52, .invokestatic 84, 3), (55, .iastore, 1), (56, .iinc 3 1, 3), (59, .goto (-45), 3), (62, .iconst 1, 1), (63, .ireturn, 1)]
theorem zX1_comeNearer : (tX1_comeNearer.all fun q => decide (decode cX1_comeNearer q.1 = .ok q.2)) = true := by decide +kernel
def tX1_allowOneMore : List (Nat × Instr × Nat) := [(0, .aload_n 0, 1), (1, .getfield 18, 3), (4, .iconst 0, 1), (5, .aload_n 0, 1), (6, .getfield 22, 3), (9, .iconst 0, 1), (10, .bipush 8, 2), (12, .invokestatic 57, 3), (15, .iconst 0, 1), (16, .istore_n 1, 1), (17, .iconst 0, 1), (18, .istore_n 2, 1), (19, .iload_n 2, 1), (20, .aload_n 0, 1), (21, .getfield 25, 3), (24, .invokevirtual 63, 3), (27, .if_icmp .ge 63, 3), (30, .aload_n 0, 1), (31, .getfield 25, 3), (34, .iload_n 2, 1), (35, .invokevirtual 66, 3), (38, .ifCond .eq 46, 3), (41, .aload_n 0, 1), (42, .getfield 25, 3), (45, .iload_n 2, 1), (46, .invokevirtual 70, 3), (49, .ifCond .eq 35, 3), (52, .aload_n 0, 1), (53, .getfield 25, 3), (56, .iload_n 2, 1), (57, .invokevirtual 73, 3), (60, .istore_n 3, 1), (61, .iload_n 1, 1), (62, .aload_n 0, 1), (63, .iload_n 3, 1), (64, .aload_n 0, 1), (65, .getfield 22, 3), (68, .aload_n 0, 1), (69, .getfield 25, 3), (72, .iload_n 2, 1), (73, .invokevirtual 77, 3), (76, .iaload, 1), (77, .iconst 1, 1), (78, .iadd, 1), (79, .invokevirtual 80, 3), (82, .ior, 1), (83, .istore_n 1, 1), (84, .iinc 2 1, 3), (87, .goto (-68), 3), (90, .iload_n 1, 1), (91, .ireturn, 1)]
theorem zX1_allowOneMore : (tX1_allowOneMore.all fun q => decide (decode cX1_allowOneMore q.1 = .ok q.2)) = true := by decide +kernel
def tX1_fullest : List (Nat × Instr × Nat) := [(0, .aload_n 0, 1), (1, .iload_n 1, 1), (2, .invokevirtual 29, 3), (5, .iconst 0, 1), (6, .istore_n 3, 1), (7, .iload_n 3, 1), (8, .aload_n 0, 1), (9, .getfield 25, 3), (12, .invokevirtual 33, 3), (15, .if_icmp .gt 30, 3), (18, .aload_n 0, 1), (19, .invokevirtual 39, 3), (22, .iload_n 2, 1), (23, .iand, 1), (24, .iload_n 2, 1), (25, .if_icmp .ne 5, 3), (28, .iload_n 3, 1), (29, .ireturn, 1), (30, .aload_n 0, 1), (31, .invokevirtual 42, 3), (34, .ifCond .ne 5, 3), (37, .iconst (-1), 1), (38, .ireturn, 1), (39, .iinc 3 1, 3), (42, .goto (-35), 3), (45, .iconst (-1), 1), (46, .ireturn, 1)]
theorem zX1_fullest : (tX1_fullest.all fun q => decide (decode cX1_fullest q.1 = .ok q.2)) = true := by decide +kernel
def tX1_homely : List (Nat × Instr × Nat) := [(0, .aload_n 0, 1), (1, .iload_n 1, 1), (2, .invokevirtual 29, 3), (5, .iconst 1, 1), (6, .istore_n 2, 1), (7, .iconst 0, 1), (8, .istore_n 3, 1), (9, .iload_n 3, 1), (10, .aload_n 0, 1), (11, .getfield 25, 3), (14, .invokevirtual 33, 3), (17, .if_icmp .ge 18, 3), (20, .iload_n 2, 1), (21, .ifCond .eq 14, 3), (24, .aload_n 0, 1), (25, .invokevirtual 42, 3), (28, .istore_n 2, 1), (29, .iinc 3 1, 3), (32, .goto (-23), 3), (35, .aload_n 0, 1), (36, .invokevirtual 39, 3), (39, .ireturn, 1)]
theorem zX1_homely : (tX1_homely.all fun q => decide (decode cX1_homely q.1 = .ok q.2)) = true := by decide +kernel
def tX1_stepsTo : List (Nat × Instr × Nat) := [(0, .iconst 0, 1), (1, .istore_n 2, 1), (2, .iconst 0, 1), (3, .istore_n 3, 1), (4, .iload_n 3, 1), (5, .bipush 8, 2), (7, .if_icmp .ge 27, 3), (10, .iload_n 1, 1), (11, .iload_n 3, 1), (12, .ishr, 1), (13, .iconst 1, 1), (14, .iand, 1), (15, .iconst 1, 1), (16, .if_icmp .ne 12, 3), (19, .iload_n 2, 1), (20, .aload_n 0, 1), (21, .getfield 18, 3), (24, .iload_n 3, 1), (25, .iaload, 1), (26, .iadd, 1), (27, .istore_n 2, 1), (28, .iinc 3 1, 3), (31, .goto (-27), 3), (34, .iload_n 2, 1), (35, .ireturn, 1)]
theorem zX1_stepsTo : (tX1_stepsTo.all fun q => decide (decode cX1_stepsTo q.1 = .ok q.2)) = true := by decide +kernel
def tX2_onPaper : List (Nat × Instr × Nat) := [(0, .aload_n 0, 1), (1, .getfield 12, 3), (4, .areturn, 1)]
theorem zX2_onPaper : (tX2_onPaper.all fun q => decide (decode cX2_onPaper q.1 = .ok q.2)) = true := by decide +kernel
def tX5_size : List (Nat × Instr × Nat) := [(0, .aload_n 0, 1), (1, .getfield 15, 3), (4, .ireturn, 1)]
theorem zX5_size : (tX5_size.all fun q => decide (decode cX5_size q.1 = .ok q.2)) = true := by decide +kernel
def tX2_begin : List (Nat × Instr × Nat) := [(0, .aload_n 0, 1), (1, .iconst (-1), 1), (2, .putfield 22, 3), (5, .aload_n 0, 1), (6, .iload_n 1, 1), (7, .putfield 26, 3), (10, .aload_n 0, 1), (11, .aload_n 0, 1), (12, .getfield 12, 3), (15, .invokevirtual 29, 3), (18, .putfield 33, 3), (21, .aload_n 0, 1), (22, .iconst 0, 1), (23, .putfield 36, 3), (26, .return_, 1)]
theorem zX2_begin : (tX2_begin.all fun q => decide (decode cX2_begin q.1 = .ok q.2)) = true := by decide +kernel
def tX8_size : List (Nat × Instr × Nat) := [(0, .aload_n 0, 1), (1, .getfield 25, 3), (4, .ireturn, 1)]
theorem zX8_size : (tX8_size.all fun q => decide (decode cX8_size q.1 = .ok q.2)) = true := by decide +kernel
def tX8_at : List (Nat × Instr × Nat) := [(0, .iload_n 1, 1), (1, .ifCond .lt 20, 3), (4, .iload_n 1, 1), (5, .aload_n 0, 1), (6, .getfield 25, 3), (9, .if_icmp .ge 12, 3), (12, .aload_n 0, 1), (13, .getfield 9, 3), (16, .iload_n 1, 1), (17, .iaload, 1), (18, .goto 4, 3), (21, .iconst (-1), 1), (22, .ireturn, 1)]
theorem zX8_at : (tX8_at.all fun q => decide (decode cX8_at q.1 = .ok q.2)) = true := by decide +kernel
def tX3_letterOf : List (Nat × Instr × Nat) := [(0, .iload_n 1, 1), (1, .bipush 97, 2), (3, .if_icmp .lt 21, 3), (6, .iload_n 1, 1), (7, .bipush 97, 2), (9, .aload_n 0, 1), (10, .getfield 35, 3), (13, .iadd, 1), (14, .if_icmp .ge 10, 3), (17, .iconst 2, 1), (18, .iload_n 1, 1), (19, .bipush 97, 2), (21, .isub, 1), (22, .imul, 1), (23, .ireturn, 1), (24, .iload_n 1, 1), (25, .bipush 65, 2), (27, .if_icmp .lt 23, 3), (30, .iload_n 1, 1), (31, .bipush 65, 2), (33, .aload_n 0, 1), (34, .getfield 35, 3), (37, .iadd, 1), (38, .if_icmp .ge 12, 3), (41, .iconst 2, 1), (42, .iload_n 1, 1), (43, .bipush 65, 2), (45, .isub, 1), (46, .imul, 1), (47, .iconst 1, 1), (48, .iadd, 1), (49, .ireturn, 1), (50, .iconst (-1), 1), (51, .ireturn, 1)]
theorem zX3_letterOf : (tX3_letterOf.all fun q => decide (decode cX3_letterOf q.1 = .ok q.2)) = true := by decide +kernel
def tX5_strikes : List (Nat × Instr × Nat) := [(0, .aload_n 0, 1), (1, .getfield 15, 3), (4, .ifCond .le 24, 3), (7, .aload_n 0, 1), (8, .getfield 9, 3), (11, .aload_n 0, 1), (12, .getfield 15, 3), (15, .iconst 1, 1), (16, .isub, 1), (17, .iaload, 1), (18, .iload_n 1, 1), (19, .iconst 1, 1), (20, .ixor, 1), (21, .if_icmp .ne 7, 3), (24, .iconst 1, 1), (25, .goto 4, 3), (28, .iconst 0, 1), (29, .ireturn, 1)]
theorem zX5_strikes : (tX5_strikes.all fun q => decide (decode cX5_strikes q.1 = .ok q.2)) = true := by decide +kernel
def tX2_mayPass : List (Nat × Instr × Nat) := [(0, .aload_n 0, 1), (1, .getfield 18, 3), (4, .iload_n 1, 1), (5, .invokevirtual 59, 3), (8, .aload_n 0, 1), (9, .getfield 26, 3), (12, .if_icmp .ne 14, 3), (15, .aload_n 0, 1), (16, .getfield 18, 3), (19, .iload_n 1, 1), (20, .invokevirtual 62, 3), (23, .ifCond .ne 5, 3), (26, .iconst 0, 1), (27, .ireturn, 1), (28, .aload_n 0, 1), (29, .getfield 18, 3), (32, .iload_n 1, 1), (33, .invokevirtual 65, 3), (36, .ifCond .eq 31, 3), (39, .aload_n 0, 1), (40, .getfield 12, 3), (43, .iload_n 1, 1), (44, .invokevirtual 68, 3), (47, .ifCond .ne 20, 3), (50, .aload_n 0, 1), (51, .getfield 12, 3), (54, .invokevirtual 29, 3), (57, .aload_n 0, 1), (58, .getfield 18, 3), (61, .invokevirtual 71, 3), (64, .if_icmp .ge 7, 3), (67, .iconst 1, 1), (68, .goto 4, 3), (71, .iconst 0, 1), (72, .ireturn, 1)]
theorem zX2_mayPass : (tX2_mayPass.all fun q => decide (decode cX2_mayPass q.1 = .ok q.2)) = true := by decide +kernel
def tX5_stamp : List (Nat × Instr × Nat) := [(0, .aload_n 0, 1), (1, .iload_n 1, 1), (2, .invokevirtual 19, 3), (5, .ifCond .eq 16, 3), (8, .aload_n 0, 1), (9, .dup, 1), (10, .getfield 15, 3), (13, .iconst 1, 1), (14, .isub, 1), (15, .putfield 15, 3), (18, .goto 32, 3), (21, .aload_n 0, 1), (22, .getfield 15, 3), (25, .bipush 60, 2), (27, .if_icmp .ge 23, 3), (30, .aload_n 0, 1), (31, .getfield 9, 3), (34, .aload_n 0, 1), (35, .getfield 15, 3), (38, .iload_n 1, 1), (39, .iastore, 1), (40, .aload_n 0, 1), (41, .dup, 1), (42, .getfield 15, 3), (45, .iconst 1, 1), (46, .iadd, 1), (47, .putfield 15, 3), (50, .return_, 1)]
theorem zX5_stamp : (tX5_stamp.all fun q => decide (decode cX5_stamp q.1 = .ok q.2)) = true := by decide +kernel
def tX2_pass : List (Nat × Instr × Nat) := [(0, .aload_n 0, 1), (1, .aload_n 0, 1), (2, .getfield 18, 3), (5, .iload_n 1, 1), (6, .invokevirtual 74, 3), (9, .putfield 26, 3), (12, .aload_n 0, 1), (13, .getfield 18, 3), (16, .iload_n 1, 1), (17, .invokevirtual 65, 3), (20, .ifCond .ne 4, 3), (23, .return_, 1), (24, .aload_n 0, 1), (25, .getfield 12, 3), (28, .iload_n 1, 1), (29, .invokevirtual 68, 3), (32, .ifCond .eq 13, 3), (35, .aload_n 0, 1), (36, .dup, 1), (37, .getfield 36, 3), (40, .iconst 1, 1), (41, .iadd, 1), (42, .putfield 36, 3), (45, .aload_n 0, 1), (46, .getfield 12, 3), (49, .iload_n 1, 1), (50, .invokevirtual 77, 3), (53, .aload_n 0, 1), (54, .aload_n 0, 1), (55, .getfield 33, 3), (58, .aload_n 0, 1), (59, .getfield 12, 3), (62, .invokevirtual 29, 3), (65, .invokestatic 80, 3), (68, .putfield 33, 3), (71, .return_, 1)]
theorem zX2_pass : (tX2_pass.all fun q => decide (decode cX2_pass q.1 = .ok q.2)) = true := by decide +kernel
def tX2_follow : List (Nat × Instr × Nat) := [(0, .iconst 0, 1), (1, .istore_n 2, 1), (2, .iload_n 2, 1), (3, .aload_n 1, 1), (4, .invokevirtual 39, 3), (7, .if_icmp .ge 41, 3), (10, .aload_n 0, 1), (11, .getfield 18, 3), (14, .aload_n 1, 1), (15, .iload_n 2, 1), (16, .invokevirtual 42, 3), (19, .invokevirtual 46, 3), (22, .istore_n 3, 1), (23, .aload_n 0, 1), (24, .iload_n 3, 1), (25, .invokevirtual 51, 3), (28, .ifCond .ne 9, 3), (31, .aload_n 0, 1), (32, .iload_n 2, 1), (33, .putfield 22, 3), (36, .return_, 1), (37, .aload_n 0, 1), (38, .iload_n 3, 1), (39, .invokevirtual 55, 3), (42, .iinc 2 1, 3), (45, .goto (-43), 3), (48, .return_, 1)]
theorem zX2_follow : (tX2_follow.all fun q => decide (decode cX2_follow q.1 = .ok q.2)) = true := by decide +kernel
def tX2_verdict : List (Nat × Instr × Nat) := [(0, .iload_n 1, 1), (1, .tableswitch 54 0 3 #[31, 36, 41, 46], 31), (32, .aload_n 0, 1), (33, .getfield 22, 3), (36, .ireturn, 1), (37, .aload_n 0, 1), (38, .getfield 26, 3), (41, .ireturn, 1), (42, .aload_n 0, 1), (43, .getfield 33, 3), (46, .ireturn, 1), (47, .aload_n 0, 1), (48, .getfield 12, 3), (51, .invokevirtual 29, 3), (54, .ireturn, 1), (55, .aload_n 0, 1), (56, .getfield 36, 3), (59, .ireturn, 1)]
theorem zX2_verdict : (tX2_verdict.all fun q => decide (decode cX2_verdict q.1 = .ok q.2)) = true := by decide +kernel
def tX3_forget : List (Nat × Instr × Nat) := [(0, .aload_n 0, 1), (1, .iconst 0, 1), (2, .putfield 35, 3), (5, .aload_n 0, 1), (6, .iconst 0, 1), (7, .putfield 38, 3), (10, .aload_n 0, 1), (11, .bipush 11, 2), (13, .putfield 15, 3), (16, .return_, 1)]
theorem zX3_forget : (tX3_forget.all fun q => decide (decode cX3_forget q.1 = .ok q.2)) = true := by decide +kernel
def tX3_isFigure : List (Nat × Instr × Nat) := [(0, .iload_n 0, 1), (1, .bipush 48, 2), (3, .if_icmp .lt 13, 3), (6, .iload_n 0, 1), (7, .bipush 57, 2), (9, .if_icmp .gt 7, 3), (12, .iconst 1, 1), (13, .goto 4, 3), (16, .iconst 0, 1), (17, .ireturn, 1)]
theorem zX3_isFigure : (tX3_isFigure.all fun q => decide (decode cX3_isFigure q.1 = .ok q.2)) = true := by decide +kernel
def tX3_takeRoom : List (Nat × Instr × Nat) := [(0, .aload_n 1, 1), (1, .iload_n 2, 1), (2, .iconst 1, 1), (3, .iadd, 1), (4, .invokevirtual 41, 3), (7, .istore_n 3, 1), (8, .aload_n 1, 1), (9, .iload_n 2, 1), (10, .iconst 2, 1), (11, .iadd, 1), (12, .invokevirtual 41, 3), (15, .istore 4, 2), (17, .iload_n 3, 1), (18, .invokestatic 56, 3), (21, .ifCond .ne 9, 3), (24, .iload_n 2, 1), (25, .iconst 1, 1), (26, .iadd, 1), (27, .iconst (-1), 1), (28, .ixor, 1), (29, .ireturn, 1), (30, .iload 4, 2), (32, .invokestatic 56, 3), (35, .ifCond .eq 19, 3), (38, .bipush 10, 2), (40, .iload_n 3, 1), (41, .bipush 48, 2), (43, .isub, 1), (44, .imul, 1), (45, .iload 4, 2), (47, .iadd, 1), (48, .bipush 48, 2), (50, .isub, 1), (51, .goto 7, 3), (54, .iload_n 3, 1), (55, .bipush 48, 2), (57, .isub, 1), (58, .istore 5, 2), (60, .iload 5, 2), (62, .iconst 1, 1), (63, .if_icmp .lt 10, 3), (66, .iload 5, 2), (68, .bipush 11, 2), (70, .if_icmp .le 9, 3), (73, .iload_n 2, 1), (74, .iconst 1, 1), (75, .iadd, 1), (76, .iconst (-1), 1), (77, .ixor, 1), (78, .ireturn, 1), (79, .aload_n 0, 1), (80, .iload 5, 2), (82, .putfield 15, 3), (85, .iload 4, 2), (87, .invokestatic 56, 3), (90, .ifCond .eq 9, 3), (93, .iload_n 2, 1), (94, .iconst 3, 1), (95, .iadd, 1), (96, .goto 6, 3), (99, .iload_n 2, 1), (100, .iconst 2, 1), (101, .iadd, 1), (102, .ireturn, 1)]
theorem zX3_takeRoom : (tX3_takeRoom.all fun q => decide (decode cX3_takeRoom q.1 = .ok q.2)) = true := by decide +kernel
def tX3_isTownByte : List (Nat × Instr × Nat) := [(0, .iload_n 0, 1), (1, .bipush 48, 2), (3, .if_icmp .lt 13, 3), (6, .iload_n 0, 1), (7, .bipush 55, 2), (9, .if_icmp .gt 7, 3), (12, .iconst 1, 1), (13, .goto 4, 3), (16, .iconst 0, 1), (17, .ireturn, 1)]
theorem zX3_isTownByte : (tX3_isTownByte.all fun q => decide (decode cX3_isTownByte q.1 = .ok q.2)) = true := by decide +kernel
def tX3_takeGate : List (Nat × Instr × Nat) := [(0, .aload_n 1, 1), (1, .iload_n 2, 1), (2, .invokevirtual 41, 3), (5, .invokestatic 52, 3), (8, .ifCond .eq 12, 3), (11, .aload_n 0, 1), (12, .getfield 35, 3), (15, .bipush 9, 2), (17, .if_icmp .lt 7, 3), (20, .iload_n 2, 1), (21, .iconst (-1), 1), (22, .ixor, 1), (23, .ireturn, 1), (24, .aload_n 1, 1), (25, .iload_n 2, 1), (26, .iconst 1, 1), (27, .iadd, 1), (28, .invokevirtual 41, 3), (31, .invokestatic 52, 3), (34, .ifCond .ne 9, 3), (37, .iload_n 2, 1), (38, .iconst 1, 1), (39, .iadd, 1), (40, .iconst (-1), 1), (41, .ixor, 1), (42, .ireturn, 1), (43, .aload_n 0, 1), (44, .getfield 9, 3), (47, .iconst 2, 1), (48, .aload_n 0, 1), (49, .getfield 35, 3), (52, .imul, 1), (53, .aload_n 1, 1), (54, .iload_n 2, 1), (55, .invokevirtual 41, 3), (58, .bipush 48, 2), (60, .isub, 1), (61, .iastore, 1), (62, .aload_n 0, 1), (63, .getfield 9, 3), (66, .iconst 2, 1), (67, .aload_n 0, 1), (68, .getfield 35, 3), (71, .imul, 1), (72, .iconst 1, 1), (73, .iadd, 1), (74, .aload_n 1, 1), (75, .iload_n 2, 1), (76, .iconst 1, 1), (77, .iadd, 1), (78, .invokevirtual 41, 3), (81, .bipush 48, 2), (83, .isub, 1), (84, .iastore, 1), (85, .aload_n 1, 1), (86, .iload_n 2, 1), (87, .iconst 2, 1), (88, .iadd, 1), (89, .invokevirtual 41, 3), (92, .bipush 117, 2), (94, .if_icmp .ne 7, 3), (97, .iconst 1, 1), (98, .goto 4, 3), (101, .iconst 0, 1), (102, .istore_n 3, 1), (103, .iload_n 3, 1), (104, .ifCond .ne 18, 3), (107, .aload_n 0, 1), (108, .dup, 1), (109, .getfield 38, 3), (112, .iconst 1, 1), (113, .aload_n 0, 1), (114, .getfield 35, 3), (117, .ishl, 1), (118, .ior, 1), (119, .putfield 38, 3), (122, .aload_n 0, 1), (123, .dup, 1), (124, .getfield 35, 3), (127, .iconst 1, 1), (128, .iadd, 1), (129, .putfield 35, 3), (132, .iload_n 3, 1), (133, .ifCond .eq 9, 3), (136, .iload_n 2, 1), (137, .iconst 3, 1), (138, .iadd, 1), (139, .goto 6, 3), (142, .iload_n 2, 1), (143, .iconst 2, 1), (144, .iadd, 1), (145, .ireturn, 1)]
theorem zX3_takeGate : (tX3_takeGate.all fun q => decide (decode cX3_takeGate q.1 = .ok q.2)) = true := by decide +kernel
def tX3_faultOf : List (Nat × Instr × Nat) := [(0, .iconst 0, 1), (1, .istore_n 2, 1), (2, .iconst 0, 1), (3, .istore_n 3, 1), (4, .iload_n 3, 1), (5, .bipush 50, 2), (7, .if_icmp .ge 76, 3), (10, .aload_n 1, 1), (11, .iload_n 2, 1), (12, .invokevirtual 41, 3), (15, .bipush 114, 2), (17, .if_icmp .ne 12, 3), (20, .aload_n 0, 1), (21, .aload_n 1, 1), (22, .iload_n 2, 1), (23, .invokevirtual 45, 3), (26, .goto 9, 3), (29, .aload_n 0, 1), (30, .aload_n 1, 1), (31, .iload_n 2, 1), (32, .invokevirtual 49, 3), (35, .istore 4, 2), (37, .iload 4, 2), (39, .ifCond .ge 8, 3), (42, .iload 4, 2), (44, .iconst (-1), 1), (45, .ixor, 1), (46, .ireturn, 1), (47, .iload 4, 2), (49, .aload_n 1, 1), (50, .invokevirtual 25, 3), (53, .if_icmp .ne 5, 3), (56, .iconst (-1), 1), (57, .ireturn, 1), (58, .aload_n 1, 1), (59, .iload 4, 2), (61, .invokevirtual 41, 3), (64, .bipush 59, 2), (66, .if_icmp .eq 6, 3), (69, .iload 4, 2), (71, .ireturn, 1), (72, .iload 4, 2), (74, .iconst 1, 1), (75, .iadd, 1), (76, .istore_n 2, 1), (77, .iinc 3 1, 3), (80, .goto (-76), 3), (83, .iload_n 2, 1), (84, .ireturn, 1)]
theorem zX3_faultOf : (tX3_faultOf.all fun q => decide (decode cX3_faultOf q.1 = .ok q.2)) = true := by decide +kernel
def tX3_learn : List (Nat × Instr × Nat) := [(0, .aload_n 0, 1), (1, .invokevirtual 22, 3), (4, .aload_n 0, 1), (5, .aload_n 1, 1), (6, .invokevirtual 25, 3), (9, .ifCond .ne 7, 3), (12, .iconst (-1), 1), (13, .goto 8, 3), (16, .aload_n 0, 1), (17, .aload_n 1, 1), (18, .invokevirtual 31, 3), (21, .putfield 19, 3), (24, .aload_n 0, 1), (25, .getfield 19, 3), (28, .iconst (-1), 1), (29, .if_icmp .eq 7, 3), (32, .aload_n 0, 1), (33, .invokevirtual 22, 3), (36, .return_, 1)]
theorem zX3_learn : (tX3_learn.all fun q => decide (decode cX3_learn q.1 = .ok q.2)) = true := by decide +kernel
def tX3_close : List (Nat × Instr × Nat) := [(0, .aload_n 0, 1), (1, .getfield 59, 3), (4, .istore_n 2, 1), (5, .aload_n 0, 1), (6, .iload_n 1, 1), (7, .putfield 59, 3), (10, .iload_n 2, 1), (11, .ireturn, 1)]
theorem zX3_close : (tX3_close.all fun q => decide (decode cX3_close q.1 = .ok q.2)) = true := by decide +kernel
def tX3_faultPlace : List (Nat × Instr × Nat) := [(0, .aload_n 0, 1), (1, .getfield 19, 3), (4, .ireturn, 1)]
theorem zX3_faultPlace : (tX3_faultPlace.all fun q => decide (decode cX3_faultPlace q.1 = .ok q.2)) = true := by decide +kernel
def tJ6_bitCount_0f7a4 : List (Nat × Instr × Nat) := [(0, .iload_n 0, 1), (1, .iload_n 0, 1), (2, .iconst 1, 1), (3, .iushr, 1), (4, .ldc_w 265, 3), (7, .iand, 1), (8, .isub, 1), (9, .istore_n 0, 1), (10, .iload_n 0, 1), (11, .ldc_w 266, 3), (14, .iand, 1), (15, .iload_n 0, 1), (16, .iconst 2, 1), (17, .iushr, 1), (18, .ldc_w 266, 3), (21, .iand, 1), (22, .iadd, 1), (23, .istore_n 0, 1), (24, .iload_n 0, 1), (25, .iload_n 0, 1), (26, .iconst 4, 1), (27, .iushr, 1), (28, .iadd, 1), (29, .ldc_w 267, 3), (32, .iand, 1), (33, .istore_n 0, 1), (34, .iload_n 0, 1), (35, .iload_n 0, 1), (36, .bipush 8, 2), (38, .iushr, 1), (39, .iadd, 1), (40, .istore_n 0, 1), (41, .iload_n 0, 1), (42, .iload_n 0, 1), (43, .bipush 16, 2), (45, .iushr, 1), (46, .iadd, 1), (47, .istore_n 0, 1), (48, .iload_n 0, 1), (49, .bipush 63, 2), (51, .iand, 1), (52, .ireturn, 1)]
theorem zJ6_bitCount_0f7a4 : (tJ6_bitCount_0f7a4.all fun q => decide (decode cJ6_bitCount_0f7a4 q.1 = .ok q.2)) = true := by decide +kernel
def tX3_gatesWatched : List (Nat × Instr × Nat) := [(0, .aload_n 0, 1), (1, .getfield 38, 3), (4, .invokestatic 62, 3), (7, .ireturn, 1)]
theorem zX3_gatesWatched : (tX3_gatesWatched.all fun q => decide (decode cX3_gatesWatched q.1 = .ok q.2)) = true := by decide +kernel
def tX3_hasGate : List (Nat × Instr × Nat) := [(0, .iload_n 1, 1), (1, .ifCond .lt 15, 3), (4, .iload_n 1, 1), (5, .aload_n 0, 1), (6, .getfield 35, 3), (9, .if_icmp .ge 7, 3), (12, .iconst 1, 1), (13, .goto 4, 3), (16, .iconst 0, 1), (17, .ireturn, 1)]
theorem zX3_hasGate : (tX3_hasGate.all fun q => decide (decode cX3_hasGate q.1 = .ok q.2)) = true := by decide +kernel
def tX3_openGates : List (Nat × Instr × Nat) := [(0, .iconst 1, 1), (1, .aload_n 0, 1), (2, .getfield 35, 3), (5, .ishl, 1), (6, .iconst 1, 1), (7, .isub, 1), (8, .aload_n 0, 1), (9, .getfield 59, 3), (12, .iconst (-1), 1), (13, .ixor, 1), (14, .iand, 1), (15, .ireturn, 1)]
theorem zX3_openGates : (tX3_openGates.all fun q => decide (decode cX3_openGates q.1 = .ok q.2)) = true := by decide +kernel
def tX4_isFull : List (Nat × Instr × Nat) := [(0, .aload_n 0, 1), (1, .getfield 24, 3), (4, .bipush 12, 2), (6, .if_icmp .lt 7, 3), (9, .iconst 1, 1), (10, .goto 4, 3), (13, .iconst 0, 1), (14, .ireturn, 1)]
theorem zX4_isFull : (tX4_isFull.all fun q => decide (decode cX4_isFull q.1 = .ok q.2)) = true := by decide +kernel
def tX4_size : List (Nat × Instr × Nat) := [(0, .aload_n 0, 1), (1, .getfield 24, 3), (4, .ireturn, 1)]
theorem zX4_size : (tX4_size.all fun q => decide (decode cX4_size q.1 = .ok q.2)) = true := by decide +kernel
def tX5_at : List (Nat × Instr × Nat) := [(0, .iload_n 1, 1), (1, .ifCond .lt 20, 3), (4, .iload_n 1, 1), (5, .aload_n 0, 1), (6, .getfield 15, 3), (9, .if_icmp .ge 12, 3), (12, .aload_n 0, 1), (13, .getfield 9, 3), (16, .iload_n 1, 1), (17, .iaload, 1), (18, .goto 4, 3), (21, .iconst (-1), 1), (22, .ireturn, 1)]
theorem zX5_at : (tX5_at.all fun q => decide (decode cX5_at q.1 = .ok q.2)) = true := by decide +kernel
def tX4_append : List (Nat × Instr × Nat) := [(0, .aload_n 0, 1), (1, .invokevirtual 28, 3), (4, .ifCond .eq 4, 3), (7, .return_, 1), (8, .iconst 0, 1), (9, .istore_n 3, 1), (10, .iload_n 3, 1), (11, .bipush 11, 2), (13, .if_icmp .ge 28, 3), (16, .aload_n 0, 1), (17, .getfield 9, 3), (20, .aload_n 0, 1), (21, .getfield 24, 3), (24, .bipush 11, 2), (26, .imul, 1), (27, .iload_n 3, 1), (28, .iadd, 1), (29, .aload_n 1, 1), (30, .iload_n 3, 1), (31, .invokevirtual 32, 3), (34, .iastore, 1), (35, .iinc 3 1, 3), (38, .goto (-28), 3), (41, .aload_n 0, 1), (42, .getfield 15, 3), (45, .aload_n 0, 1), (46, .getfield 24, 3), (49, .aload_n 1, 1), (50, .invokevirtual 38, 3), (53, .iastore, 1), (54, .aload_n 0, 1), (55, .getfield 18, 3), (58, .aload_n 0, 1), (59, .getfield 24, 3), (62, .iload_n 2, 1), (63, .iastore, 1), (64, .aload_n 0, 1), (65, .dup, 1), (66, .getfield 24, 3), (69, .iconst 1, 1), (70, .iadd, 1), (71, .putfield 24, 3), (74, .return_, 1)]
theorem zX4_append : (tX4_append.all fun q => decide (decode cX4_append q.1 = .ok q.2)) = true := by decide +kernel
def tX4_dropLast : List (Nat × Instr × Nat) := [(0, .aload_n 0, 1), (1, .iconst 0, 1), (2, .aload_n 0, 1), (3, .getfield 24, 3), (6, .iconst 1, 1), (7, .isub, 1), (8, .invokestatic 41, 3), (11, .putfield 24, 3), (14, .return_, 1)]
theorem zX4_dropLast : (tX4_dropLast.all fun q => decide (decode cX4_dropLast q.1 = .ok q.2)) = true := by decide +kernel
def tX4_goodOnes : List (Nat × Instr × Nat) := [(0, .iconst 0, 1), (1, .istore_n 1, 1), (2, .iconst 0, 1), (3, .istore_n 2, 1), (4, .iload_n 2, 1), (5, .aload_n 0, 1), (6, .getfield 24, 3), (9, .if_icmp .ge 18, 3), (12, .iload_n 1, 1), (13, .aload_n 0, 1), (14, .getfield 18, 3), (17, .iload_n 2, 1), (18, .iaload, 1), (19, .iadd, 1), (20, .istore_n 1, 1), (21, .iinc 2 1, 3), (24, .goto (-20), 3), (27, .iload_n 1, 1), (28, .ireturn, 1)]
theorem zX4_goodOnes : (tX4_goodOnes.all fun q => decide (decode cX4_goodOnes q.1 = .ok q.2)) = true := by decide +kernel
def tX4_stampsOf : List (Nat × Instr × Nat) := [(0, .iload_n 1, 1), (1, .ifCond .lt 20, 3), (4, .iload_n 1, 1), (5, .aload_n 0, 1), (6, .getfield 24, 3), (9, .if_icmp .ge 12, 3), (12, .aload_n 0, 1), (13, .getfield 15, 3), (16, .iload_n 1, 1), (17, .iaload, 1), (18, .goto 4, 3), (21, .iconst 0, 1), (22, .ireturn, 1)]
theorem zX4_stampsOf : (tX4_stampsOf.all fun q => decide (decode cX4_stampsOf q.1 = .ok q.2)) = true := by decide +kernel
def tX4_stampAt : List (Nat × Instr × Nat) := [(0, .iload_n 1, 1), (1, .ifCond .lt 25, 3), (4, .iload_n 1, 1), (5, .aload_n 0, 1), (6, .getfield 24, 3), (9, .if_icmp .ge 17, 3), (12, .iload_n 2, 1), (13, .ifCond .lt 13, 3), (16, .iload_n 2, 1), (17, .bipush 11, 2), (19, .if_icmp .ge 7, 3), (22, .iconst 1, 1), (23, .goto 4, 3), (26, .iconst 0, 1), (27, .istore_n 3, 1), (28, .iload_n 3, 1), (29, .ifCond .eq 17, 3), (32, .aload_n 0, 1), (33, .getfield 9, 3), (36, .iload_n 1, 1), (37, .bipush 11, 2), (39, .imul, 1), (40, .iload_n 2, 1), (41, .iadd, 1), (42, .iaload, 1), (43, .goto 4, 3), (46, .iconst (-1), 1), (47, .ireturn, 1)]
theorem zX4_stampAt : (tX4_stampAt.all fun q => decide (decode cX4_stampAt q.1 = .ok q.2)) = true := by decide +kernel
def tX4_unlikeAt : List (Nat × Instr × Nat) := [(0, .iconst 0, 1), (1, .istore_n 3, 1), (2, .iconst 0, 1), (3, .istore 4, 2), (5, .iload 4, 2), (7, .bipush 11, 2), (9, .if_icmp .ge 32, 3), (12, .aload_n 1, 1), (13, .iload 4, 2), (15, .invokevirtual 32, 3), (18, .aload_n 0, 1), (19, .iload_n 2, 1), (20, .iload 4, 2), (22, .invokevirtual 69, 3), (25, .if_icmp .eq 10, 3), (28, .iload_n 3, 1), (29, .iconst 1, 1), (30, .iload 4, 2), (32, .ishl, 1), (33, .ior, 1), (34, .istore_n 3, 1), (35, .iinc 4 1, 3), (38, .goto (-33), 3), (41, .iload_n 3, 1), (42, .ireturn, 1)]
theorem zX4_unlikeAt : (tX4_unlikeAt.all fun q => decide (decode cX4_unlikeAt q.1 = .ok q.2)) = true := by decide +kernel
def tX4_letsBy : List (Nat × Instr × Nat) := [(0, .iconst 0, 1), (1, .istore_n 3, 1), (2, .iload_n 3, 1), (3, .aload_n 0, 1), (4, .getfield 24, 3), (7, .if_icmp .ge 32, 3), (10, .aload_n 0, 1), (11, .getfield 18, 3), (14, .iload_n 3, 1), (15, .iaload, 1), (16, .iconst 1, 1), (17, .if_icmp .ne 16, 3), (20, .aload_n 0, 1), (21, .aload_n 1, 1), (22, .iload_n 3, 1), (23, .invokevirtual 47, 3), (26, .iload_n 2, 1), (27, .iand, 1), (28, .ifCond .ne 5, 3), (31, .iconst 1, 1), (32, .ireturn, 1), (33, .iinc 3 1, 3), (36, .goto (-34), 3), (39, .iconst 0, 1), (40, .ireturn, 1)]
theorem zX4_letsBy : (tX4_letsBy.all fun q => decide (decode cX4_letsBy q.1 = .ok q.2)) = true := by decide +kernel
def tX4_unlikeOf : List (Nat × Instr × Nat) := [(0, .iconst 0, 1), (1, .istore_n 3, 1), (2, .iconst 0, 1), (3, .istore 4, 2), (5, .iload 4, 2), (7, .bipush 11, 2), (9, .if_icmp .ge 33, 3), (12, .aload_n 0, 1), (13, .iload_n 1, 1), (14, .iload 4, 2), (16, .invokevirtual 69, 3), (19, .aload_n 0, 1), (20, .iload_n 2, 1), (21, .iload 4, 2), (23, .invokevirtual 69, 3), (26, .if_icmp .eq 10, 3), (29, .iload_n 3, 1), (30, .iconst 1, 1), (31, .iload 4, 2), (33, .ishl, 1), (34, .ior, 1), (35, .istore_n 3, 1), (36, .iinc 4 1, 3), (39, .goto (-34), 3), (42, .iload_n 3, 1), (43, .ireturn, 1)]
theorem zX4_unlikeOf : (tX4_unlikeOf.all fun q => decide (decode cX4_unlikeOf q.1 = .ok q.2)) = true := by decide +kernel
def tX4_isLetBy : List (Nat × Instr × Nat) := [(0, .iconst 0, 1), (1, .istore_n 3, 1), (2, .iload_n 3, 1), (3, .aload_n 0, 1), (4, .getfield 24, 3), (7, .if_icmp .ge 32, 3), (10, .aload_n 0, 1), (11, .getfield 18, 3), (14, .iload_n 3, 1), (15, .iaload, 1), (16, .iconst 1, 1), (17, .if_icmp .ne 16, 3), (20, .aload_n 0, 1), (21, .iload_n 1, 1), (22, .iload_n 3, 1), (23, .invokevirtual 66, 3), (26, .iload_n 2, 1), (27, .iand, 1), (28, .ifCond .ne 5, 3), (31, .iconst 1, 1), (32, .ireturn, 1), (33, .iinc 3 1, 3), (36, .goto (-34), 3), (39, .iconst 0, 1), (40, .ireturn, 1)]
theorem zX4_isLetBy : (tX4_isLetBy.all fun q => decide (decode cX4_isLetBy q.1 = .ok q.2)) = true := by decide +kernel
def tX4_slipping : List (Nat × Instr × Nat) := [(0, .iconst 0, 1), (1, .istore_n 2, 1), (2, .iconst 0, 1), (3, .istore_n 3, 1), (4, .iload_n 3, 1), (5, .aload_n 0, 1), (6, .getfield 24, 3), (9, .if_icmp .ge 30, 3), (12, .aload_n 0, 1), (13, .getfield 18, 3), (16, .iload_n 3, 1), (17, .iaload, 1), (18, .ifCond .ne 15, 3), (21, .aload_n 0, 1), (22, .iload_n 3, 1), (23, .iload_n 1, 1), (24, .invokevirtual 51, 3), (27, .ifCond .eq 6, 3), (30, .iinc 2 1, 3), (33, .iinc 3 1, 3), (36, .goto (-32), 3), (39, .iload_n 2, 1), (40, .ireturn, 1)]
theorem zX4_slipping : (tX4_slipping.all fun q => decide (decode cX4_slipping q.1 = .ok q.2)) = true := by decide +kernel
def tX4_gatherUnlike : List (Nat × Instr × Nat) := [(0, .iconst 0, 1), (1, .istore_n 1, 1), (2, .iconst 0, 1), (3, .istore_n 2, 1), (4, .iload_n 2, 1), (5, .aload_n 0, 1), (6, .getfield 24, 3), (9, .if_icmp .ge 59, 3), (12, .iconst 0, 1), (13, .istore_n 3, 1), (14, .iload_n 3, 1), (15, .aload_n 0, 1), (16, .getfield 24, 3), (19, .if_icmp .ge 43, 3), (22, .aload_n 0, 1), (23, .getfield 18, 3), (26, .iload_n 2, 1), (27, .iaload, 1), (28, .ifCond .ne 28, 3), (31, .aload_n 0, 1), (32, .getfield 18, 3), (35, .iload_n 3, 1), (36, .iaload, 1), (37, .iconst 1, 1), (38, .if_icmp .ne 18, 3), (41, .aload_n 0, 1), (42, .getfield 21, 3), (45, .iload_n 1, 1), (46, .aload_n 0, 1), (47, .iload_n 2, 1), (48, .iload_n 3, 1), (49, .invokevirtual 66, 3), (52, .iastore, 1), (53, .iinc 1 1, 3), (56, .iinc 3 1, 3), (59, .goto (-45), 3), (62, .iinc 2 1, 3), (65, .goto (-61), 3), (68, .iload_n 1, 1), (69, .ireturn, 1)]
theorem zX4_gatherUnlike : (tX4_gatherUnlike.all fun q => decide (decode cX4_gatherUnlike q.1 = .ok q.2)) = true := by decide +kernel
def tX4_partsAll : List (Nat × Instr × Nat) := [(0, .iconst 0, 1), (1, .istore_n 3, 1), (2, .iload_n 3, 1), (3, .iload_n 2, 1), (4, .if_icmp .ge 22, 3), (7, .aload_n 0, 1), (8, .getfield 21, 3), (11, .iload_n 3, 1), (12, .iaload, 1), (13, .iload_n 1, 1), (14, .iand, 1), (15, .ifCond .ne 5, 3), (18, .iconst 0, 1), (19, .ireturn, 1), (20, .iinc 3 1, 3), (23, .goto (-21), 3), (26, .iconst 1, 1), (27, .ireturn, 1)]
theorem zX4_partsAll : (tX4_partsAll.all fun q => decide (decode cX4_partsAll q.1 = .ok q.2)) = true := by decide +kernel
def tX4_fewestPlaces : List (Nat × Instr × Nat) := [(0, .aload_n 0, 1), (1, .invokevirtual 55, 3), (4, .istore_n 1, 1), (5, .iconst 0, 1), (6, .istore_n 2, 1), (7, .iconst 0, 1), (8, .istore_n 3, 1), (9, .iload_n 3, 1), (10, .iload_n 1, 1), (11, .if_icmp .ge 18, 3), (14, .iload_n 2, 1), (15, .aload_n 0, 1), (16, .getfield 21, 3), (19, .iload_n 3, 1), (20, .iaload, 1), (21, .ior, 1), (22, .istore_n 2, 1), (23, .iinc 3 1, 3), (26, .goto (-17), 3), (29, .iconst (-1), 1), (30, .istore_n 3, 1), (31, .bipush 12, 2), (33, .istore 4, 2), (35, .iconst 0, 1), (36, .istore 5, 2), (38, .iload 5, 2), (40, .iload_n 2, 1), (41, .if_icmp .gt 40, 3), (44, .iload 5, 2), (46, .invokestatic 58, 3), (49, .istore 6, 2), (51, .iload 6, 2), (53, .iload 4, 2), (55, .if_icmp .ge 20, 3), (58, .aload_n 0, 1), (59, .iload 5, 2), (61, .iload_n 1, 1), (62, .invokevirtual 63, 3), (65, .ifCond .eq 10, 3), (68, .iload 5, 2), (70, .istore_n 3, 1), (71, .iload 6, 2), (73, .istore 4, 2), (75, .iinc 5 1, 3), (78, .goto (-40), 3), (81, .iload_n 3, 1), (82, .ireturn, 1)]
theorem zX4_fewestPlaces : (tX4_fewestPlaces.all fun q => decide (decode cX4_fewestPlaces q.1 = .ok q.2)) = true := by decide +kernel
def tX5_empty : List (Nat × Instr × Nat) := [(0, .aload_n 0, 1), (1, .iconst 0, 1), (2, .putfield 15, 3), (5, .return_, 1)]
theorem zX5_empty : (tX5_empty.all fun q => decide (decode cX5_empty q.1 = .ok q.2)) = true := by decide +kernel
def tX5_alike : List (Nat × Instr × Nat) := [(0, .aload_n 0, 1), (1, .getfield 15, 3), (4, .aload_n 1, 1), (5, .invokevirtual 23, 3), (8, .invokestatic 26, 3), (11, .istore_n 2, 1), (12, .iconst 0, 1), (13, .istore_n 3, 1), (14, .iload_n 3, 1), (15, .iload_n 2, 1), (16, .if_icmp .ge 24, 3), (19, .aload_n 0, 1), (20, .iload_n 3, 1), (21, .invokevirtual 32, 3), (24, .aload_n 1, 1), (25, .iload_n 3, 1), (26, .invokevirtual 32, 3), (29, .if_icmp .eq 5, 3), (32, .iload_n 3, 1), (33, .ireturn, 1), (34, .iinc 3 1, 3), (37, .goto (-23), 3), (40, .iload_n 2, 1), (41, .ireturn, 1)]
theorem zX5_alike : (tX5_alike.all fun q => decide (decode cX5_alike q.1 = .ok q.2)) = true := by decide +kernel
def tX6_need : List (Nat × Instr × Nat) := [(0, .aload_n 0, 1), (1, .getfield 43, 3), (4, .bipush 120, 2), (6, .if_icmp .ge 23, 3), (9, .aload_n 0, 1), (10, .getfield 18, 3), (13, .aload_n 0, 1), (14, .getfield 43, 3), (17, .iload_n 1, 1), (18, .iastore, 1), (19, .aload_n 0, 1), (20, .dup, 1), (21, .getfield 43, 3), (24, .iconst 1, 1), (25, .iadd, 1), (26, .putfield 43, 3), (29, .return_, 1)]
theorem zX6_need : (tX6_need.all fun q => decide (decode cX6_need q.1 = .ok q.2)) = true := by decide +kernel
def tX6_plan : List (Nat × Instr × Nat) := [(0, .aload_n 0, 1), (1, .getfield 12, 3), (4, .aload_n 0, 1), (5, .getfield 29, 3), (8, .aload_n 0, 1), (9, .getfield 29, 3), (12, .invokevirtual 33, 3), (15, .invokevirtual 39, 3), (18, .aload_n 0, 1), (19, .iconst 0, 1), (20, .putfield 43, 3), (23, .aload_n 1, 1), (24, .aload_n 2, 1), (25, .invokevirtual 47, 3), (28, .istore_n 3, 1), (29, .aload_n 1, 1), (30, .invokevirtual 53, 3), (33, .iconst 1, 1), (34, .isub, 1), (35, .istore 4, 2), (37, .iload 4, 2), (39, .iload_n 3, 1), (40, .if_icmp .lt 21, 3), (43, .aload_n 0, 1), (44, .aload_n 1, 1), (45, .iload 4, 2), (47, .invokevirtual 55, 3), (50, .iconst 1, 1), (51, .ixor, 1), (52, .invokevirtual 59, 3), (55, .iinc 4 (-1), 3), (58, .goto (-21), 3), (61, .iload_n 3, 1), (62, .istore 4, 2), (64, .iload 4, 2), (66, .aload_n 2, 1), (67, .invokevirtual 53, 3), (70, .if_icmp .ge 19, 3), (73, .aload_n 0, 1), (74, .aload_n 2, 1), (75, .iload 4, 2), (77, .invokevirtual 55, 3), (80, .invokevirtual 59, 3), (83, .iinc 4 1, 3), (86, .goto (-22), 3), (89, .return_, 1)]
theorem zX6_plan : (tX6_plan.all fun q => decide (decode cX6_plan q.1 = .ok q.2)) = true := by decide +kernel
def tX6_needAt : List (Nat × Instr × Nat) := [(0, .iload_n 1, 1), (1, .ifCond .lt 20, 3), (4, .iload_n 1, 1), (5, .aload_n 0, 1), (6, .getfield 43, 3), (9, .if_icmp .ge 12, 3), (12, .aload_n 0, 1), (13, .getfield 18, 3), (16, .iload_n 1, 1), (17, .iaload, 1), (18, .goto 4, 3), (21, .iconst (-1), 1), (22, .ireturn, 1)]
theorem zX6_needAt : (tX6_needAt.all fun q => decide (decode cX6_needAt q.1 = .ok q.2)) = true := by decide +kernel
def tX6_goal : List (Nat × Instr × Nat) := [(0, .iload_n 1, 1), (1, .aload_n 0, 1), (2, .getfield 43, 3), (5, .if_icmp .ge 18, 3), (8, .aload_n 0, 1), (9, .getfield 29, 3), (12, .aload_n 0, 1), (13, .iload_n 1, 1), (14, .invokevirtual 63, 3), (17, .invokevirtual 66, 3), (20, .goto 4, 3), (23, .iload_n 2, 1), (24, .ireturn, 1)]
theorem zX6_goal : (tX6_goal.all fun q => decide (decode cX6_goal q.1 = .ok q.2)) = true := by decide +kernel
def tX6_origin : List (Nat × Instr × Nat) := [(0, .iload_n 1, 1), (1, .ifCond .ne 7, 3), (4, .iload_n 2, 1), (5, .goto 17, 3), (8, .aload_n 0, 1), (9, .getfield 29, 3), (12, .aload_n 0, 1), (13, .iload_n 1, 1), (14, .iconst 1, 1), (15, .isub, 1), (16, .invokevirtual 63, 3), (19, .invokevirtual 69, 3), (22, .ireturn, 1)]
theorem zX6_origin : (tX6_origin.all fun q => decide (decode cX6_origin q.1 = .ok q.2)) = true := by decide +kernel
def tX6_gatesBetween : List (Nat × Instr × Nat) := [(0, .aload_n 0, 1), (1, .getfield 43, 3), (4, .istore_n 3, 1), (5, .iconst 0, 1), (6, .istore 4, 2), (8, .iload 4, 2), (10, .aload_n 0, 1), (11, .getfield 43, 3), (14, .if_icmp .gt 70, 3), (17, .aload_n 0, 1), (18, .getfield 12, 3), (21, .aload_n 0, 1), (22, .iload 4, 2), (24, .iload_n 1, 1), (25, .invokevirtual 72, 3), (28, .aload_n 0, 1), (29, .iload 4, 2), (31, .iload_n 2, 1), (32, .invokevirtual 76, 3), (35, .invokevirtual 79, 3), (38, .istore 5, 2), (40, .iload 5, 2), (42, .iconst (-1), 1), (43, .if_icmp .eq 28, 3), (46, .iload 4, 2), (48, .aload_n 0, 1), (49, .getfield 43, 3), (52, .if_icmp .ge 21, 3), (55, .aload_n 0, 1), (56, .getfield 29, 3), (59, .aload_n 0, 1), (60, .iload 4, 2), (62, .invokevirtual 63, 3), (65, .invokevirtual 82, 3), (68, .ifCond .ne 5, 3), (71, .iconst (-1), 1), (72, .ireturn, 1), (73, .iload_n 3, 1), (74, .iload 5, 2), (76, .iadd, 1), (77, .istore_n 3, 1), (78, .iinc 4 1, 3), (81, .goto (-73), 3), (84, .iload_n 3, 1), (85, .ireturn, 1)]
theorem zX6_gatesBetween : (tX6_gatesBetween.all fun q => decide (decode cX6_gatesBetween q.1 = .ok q.2)) = true := by decide +kernel
def tJ7_fill_d0a16 : List (Nat × Instr × Nat) := [(0, .iconst 0, 1), (1, .istore_n 3, 1), (2, .aload_n 0, 1), (3, .arraylength, 1), (4, .istore 4, 2), (6, .iload_n 3, 1), (7, .iload 4, 2), (9, .if_icmp .ge 13, 3), (12, .aload_n 0, 1), (13, .iload_n 3, 1), (14, .lload_n 1, 1), (15, .lastore, 1), (16, .iinc 3 1, 3), (19, .goto (-13), 3), (22, .return_, 1)]
theorem zJ7_fill_d0a16 : (tJ7_fill_d0a16.all fun q => decide (decode cJ7_fill_d0a16 q.1 = .ok q.2)) = true := by decide +kernel
def tX6_isLane : List (Nat × Instr × Nat) := [(0, .aload_n 0, 1), (1, .getfield 29, 3), (4, .iload_n 1, 1), (5, .invokevirtual 82, 3), (8, .ifCond .eq 18, 3), (11, .aload_n 0, 1), (12, .getfield 29, 3), (15, .iload_n 1, 1), (16, .invokevirtual 115, 3), (19, .ifCond .ne 7, 3), (22, .iconst 1, 1), (23, .goto 4, 3), (26, .iconst 0, 1), (27, .ireturn, 1)]
theorem zX6_isLane : (tX6_isLane.all fun q => decide (decode cX6_isLane q.1 = .ok q.2)) = true := by decide +kernel
def tX6_stepNearer : List (Nat × Instr × Nat) := [(0, .aload_n 0, 1), (1, .getfield 26, 3), (4, .lconst 0, 1), (5, .invokestatic 90, 3), (8, .iconst 0, 1), (9, .istore_n 3, 1), (10, .iload_n 3, 1), (11, .aload_n 0, 1), (12, .getfield 29, 3), (15, .invokevirtual 103, 3), (18, .if_icmp .ge 84, 3), (21, .aload_n 0, 1), (22, .getfield 29, 3), (25, .iload_n 3, 1), (26, .invokevirtual 66, 3), (29, .istore 4, 2), (31, .aload_n 0, 1), (32, .getfield 29, 3), (35, .iload_n 3, 1), (36, .invokevirtual 69, 3), (39, .istore 5, 2), (41, .aload_n 0, 1), (42, .iload_n 3, 1), (43, .invokevirtual 106, 3), (46, .ifCond .eq 50, 3), (49, .aload_n 0, 1), (50, .getfield 12, 3), (53, .iload 4, 2), (55, .iload_n 1, 1), (56, .invokevirtual 79, 3), (59, .iload_n 2, 1), (60, .if_icmp .ne 36, 3), (63, .aload_n 0, 1), (64, .getfield 12, 3), (67, .iload 5, 2), (69, .iload_n 1, 1), (70, .invokevirtual 79, 3), (73, .iload_n 2, 1), (74, .iconst 1, 1), (75, .isub, 1), (76, .if_icmp .ne 20, 3), (79, .aload_n 0, 1), (80, .getfield 26, 3), (83, .iload 5, 2), (85, .dup2, 1), (86, .laload, 1), (87, .aload_n 0, 1), (88, .getfield 22, 3), (91, .iload 4, 2), (93, .laload, 1), (94, .ladd, 1), (95, .lastore, 1), (96, .iinc 3 1, 3), (99, .goto (-89), 3), (102, .aload_n 0, 1), (103, .getfield 26, 3), (106, .iconst 0, 1), (107, .aload_n 0, 1), (108, .getfield 22, 3), (111, .iconst 0, 1), (112, .bipush 8, 2), (114, .invokestatic 109, 3), (117, .return_, 1)]
theorem zX6_stepNearer : (tX6_stepNearer.all fun q => decide (decode cX6_stepNearer q.1 = .ok q.2)) = true := by decide +kernel
def tX6_laneWays : List (Nat × Instr × Nat) := [(0, .aload_n 0, 1), (1, .getfield 22, 3), (4, .lconst 0, 1), (5, .invokestatic 90, 3), (8, .iload_n 1, 1), (9, .invokestatic 96, 3), (12, .ifCond .eq 10, 3), (15, .iload_n 2, 1), (16, .invokestatic 96, 3), (19, .ifCond .ne 5, 3), (22, .lconst 0, 1), (23, .lreturn, 1), (24, .aload_n 0, 1), (25, .getfield 22, 3), (28, .iload_n 1, 1), (29, .lconst 1, 1), (30, .lastore, 1), (31, .aload_n 0, 1), (32, .getfield 12, 3), (35, .iload_n 1, 1), (36, .iload_n 2, 1), (37, .invokevirtual 79, 3), (40, .istore_n 3, 1), (41, .iload_n 3, 1), (42, .ifCond .le 15, 3), (45, .aload_n 0, 1), (46, .iload_n 2, 1), (47, .iload_n 3, 1), (48, .invokevirtual 99, 3), (51, .iinc 3 (-1), 3), (54, .goto (-13), 3), (57, .aload_n 0, 1), (58, .getfield 22, 3), (61, .iload_n 2, 1), (62, .laload, 1), (63, .lreturn, 1)]
theorem zX6_laneWays : (tX6_laneWays.all fun q => decide (decode cX6_laneWays q.1 = .ok q.2)) = true := by decide +kernel
def tX6_ways : List (Nat × Instr × Nat) := [(0, .lconst 1, 1), (1, .lstore_n 3, 1), (2, .iconst 0, 1), (3, .istore 5, 2), (5, .iload 5, 2), (7, .aload_n 0, 1), (8, .getfield 43, 3), (11, .if_icmp .gt 30, 3), (14, .lload_n 3, 1), (15, .aload_n 0, 1), (16, .aload_n 0, 1), (17, .iload 5, 2), (19, .iload_n 1, 1), (20, .invokevirtual 72, 3), (23, .aload_n 0, 1), (24, .iload 5, 2), (26, .iload_n 2, 1), (27, .invokevirtual 76, 3), (30, .invokevirtual 86, 3), (33, .lmul, 1), (34, .lstore_n 3, 1), (35, .iinc 5 1, 3), (38, .goto (-33), 3), (41, .lload_n 3, 1), (42, .lreturn, 1)]
theorem zX6_ways : (tX6_ways.all fun q => decide (decode cX6_ways q.1 = .ok q.2)) = true := by decide +kernel
def tX6_leastNearer : List (Nat × Instr × Nat) := [(0, .aload_n 0, 1), (1, .getfield 12, 3), (4, .iload_n 1, 1), (5, .iload_n 2, 1), (6, .invokevirtual 79, 3), (9, .iconst 1, 1), (10, .isub, 1), (11, .istore_n 3, 1), (12, .iconst 1, 1), (13, .istore 4, 2), (15, .iload 4, 2), (17, .ifCond .lt 77, 3), (20, .iload 4, 2), (22, .istore 5, 2), (24, .iload 5, 2), (26, .aload_n 0, 1), (27, .getfield 29, 3), (30, .invokevirtual 103, 3), (33, .if_icmp .ge 55, 3), (36, .aload_n 0, 1), (37, .iload 5, 2), (39, .invokevirtual 106, 3), (42, .ifCond .eq 40, 3), (45, .aload_n 0, 1), (46, .getfield 29, 3), (49, .iload 5, 2), (51, .invokevirtual 66, 3), (54, .iload_n 1, 1), (55, .if_icmp .ne 27, 3), (58, .aload_n 0, 1), (59, .getfield 12, 3), (62, .aload_n 0, 1), (63, .getfield 29, 3), (66, .iload 5, 2), (68, .invokevirtual 69, 3), (71, .iload_n 2, 1), (72, .invokevirtual 79, 3), (75, .iload_n 3, 1), (76, .if_icmp .ne 6, 3), (79, .iload 5, 2), (81, .ireturn, 1), (82, .iinc 5 2, 3), (85, .goto (-61), 3), (88, .iinc 4 (-1), 3), (91, .goto (-76), 3), (94, .iconst (-1), 1), (95, .ireturn, 1)]
theorem zX6_leastNearer : (tX6_leastNearer.all fun q => decide (decode cX6_leastNearer q.1 = .ok q.2)) = true := by decide +kernel
def tX6_leastLaneLetter : List (Nat × Instr × Nat) := [(0, .iload_n 1, 1), (1, .istore 4, 2), (3, .iconst (-1), 1), (4, .istore 5, 2), (6, .iconst 0, 1), (7, .istore 6, 2), (9, .iload 6, 2), (11, .iload_n 3, 1), (12, .if_icmp .gt 29, 3), (15, .aload_n 0, 1), (16, .iload 4, 2), (18, .iload_n 2, 1), (19, .invokevirtual 122, 3), (22, .istore 5, 2), (24, .aload_n 0, 1), (25, .getfield 29, 3), (28, .iload 5, 2), (30, .invokevirtual 69, 3), (33, .istore 4, 2), (35, .iinc 6 1, 3), (38, .goto (-29), 3), (41, .iload 5, 2), (43, .ireturn, 1)]
theorem zX6_leastLaneLetter : (tX6_leastLaneLetter.all fun q => decide (decode cX6_leastLaneLetter q.1 = .ok q.2)) = true := by decide +kernel
def tX6_leastLetter : List (Nat × Instr × Nat) := [(0, .iload_n 3, 1), (1, .istore 4, 2), (3, .iconst 0, 1), (4, .istore 5, 2), (6, .iload 5, 2), (8, .aload_n 0, 1), (9, .getfield 43, 3), (12, .if_icmp .gt 81, 3), (15, .aload_n 0, 1), (16, .iload 5, 2), (18, .iload_n 1, 1), (19, .invokevirtual 72, 3), (22, .istore 6, 2), (24, .aload_n 0, 1), (25, .iload 5, 2), (27, .iload_n 2, 1), (28, .invokevirtual 76, 3), (31, .istore 7, 2), (33, .aload_n 0, 1), (34, .getfield 12, 3), (37, .iload 6, 2), (39, .iload 7, 2), (41, .invokevirtual 79, 3), (44, .istore 8, 2), (46, .iload 4, 2), (48, .iload 8, 2), (50, .if_icmp .ge 14, 3), (53, .aload_n 0, 1), (54, .iload 6, 2), (56, .iload 7, 2), (58, .iload 4, 2), (60, .invokevirtual 118, 3), (63, .ireturn, 1), (64, .iload 4, 2), (66, .iload 8, 2), (68, .if_icmp .ne 10, 3), (71, .aload_n 0, 1), (72, .iload 5, 2), (74, .invokevirtual 63, 3), (77, .ireturn, 1), (78, .iload 4, 2), (80, .iload 8, 2), (82, .iconst 1, 1), (83, .iadd, 1), (84, .isub, 1), (85, .istore 4, 2), (87, .iinc 5 1, 3), (90, .goto (-84), 3), (93, .iconst (-1), 1), (94, .ireturn, 1)]
theorem zX6_leastLetter : (tX6_leastLetter.all fun q => decide (decode cX6_leastLetter q.1 = .ok q.2)) = true := by decide +kernel
def tX6_isChained : List (Nat × Instr × Nat) := [(0, .aload_n 0, 1), (1, .aload_n 0, 1), (2, .getfield 29, 3), (5, .aload_n 0, 1), (6, .iconst 0, 1), (7, .invokevirtual 63, 3), (10, .invokevirtual 66, 3), (13, .aload_n 0, 1), (14, .getfield 29, 3), (17, .aload_n 0, 1), (18, .aload_n 0, 1), (19, .getfield 43, 3), (22, .iconst 1, 1), (23, .isub, 1), (24, .invokevirtual 63, 3), (27, .invokevirtual 69, 3), (30, .invokevirtual 132, 3), (33, .iconst (-1), 1), (34, .if_icmp .eq 7, 3), (37, .iconst 1, 1), (38, .goto 4, 3), (41, .iconst 0, 1), (42, .ireturn, 1)]
theorem zX6_isChained : (tX6_isChained.all fun q => decide (decode cX6_isChained q.1 = .ok q.2)) = true := by decide +kernel
def tX6_starts : List (Nat × Instr × Nat) := [(0, .aload_n 0, 1), (1, .getfield 43, 3), (4, .ifCond .ne 7, 3), (7, .sipush 255, 3), (10, .ireturn, 1), (11, .aload_n 0, 1), (12, .invokevirtual 125, 3), (15, .ifCond .eq 25, 3), (18, .aload_n 0, 1), (19, .getfield 12, 3), (22, .aload_n 0, 1), (23, .getfield 29, 3), (26, .aload_n 0, 1), (27, .iconst 0, 1), (28, .invokevirtual 63, 3), (31, .invokevirtual 66, 3), (34, .invokevirtual 129, 3), (37, .goto 4, 3), (40, .iconst 0, 1), (41, .ireturn, 1)]
theorem zX6_starts : (tX6_starts.all fun q => decide (decode cX6_starts q.1 = .ok q.2)) = true := by decide +kernel
def tX6_ends : List (Nat × Instr × Nat) := [(0, .aload_n 0, 1), (1, .getfield 43, 3), (4, .ifCond .ne 7, 3), (7, .sipush 255, 3), (10, .ireturn, 1), (11, .aload_n 0, 1), (12, .invokevirtual 125, 3), (15, .ifCond .eq 30, 3), (18, .aload_n 0, 1), (19, .getfield 12, 3), (22, .aload_n 0, 1), (23, .getfield 29, 3), (26, .aload_n 0, 1), (27, .aload_n 0, 1), (28, .getfield 43, 3), (31, .iconst 1, 1), (32, .isub, 1), (33, .invokevirtual 63, 3), (36, .invokevirtual 69, 3), (39, .invokevirtual 129, 3), (42, .goto 4, 3), (45, .iconst 0, 1), (46, .ireturn, 1)]
theorem zX6_ends : (tX6_ends.all fun q => decide (decode cX6_ends q.1 = .ok q.2)) = true := by decide +kernel
def tX7_find : List (Nat × Instr × Nat) := [(0, .aload_n 0, 1), (1, .iload_n 1, 1), (2, .putfield 29, 3), (5, .bipush (-10), 2), (7, .iload_n 1, 1), (8, .isub, 1), (9, .ireturn, 1)]
theorem zX7_find : (tX7_find.all fun q => decide (decode cX7_find q.1 = .ok q.2)) = true := by decide +kernel
def tX7_latestFinding : List (Nat × Instr × Nat) := [(0, .aload_n 0, 1), (1, .getfield 29, 3), (4, .ireturn, 1)]
theorem zX7_latestFinding : (tX7_latestFinding.all fun q => decide (decode cX7_latestFinding q.1 = .ok q.2)) = true := by decide +kernel
def tX7_isLost : List (Nat × Instr × Nat) := [(0, .aload_n 0, 1), (1, .getfield 20, 3), (4, .iload_n 1, 1), (5, .iaload, 1), (6, .iconst (-1), 1), (7, .if_icmp .ne 7, 3), (10, .iconst 1, 1), (11, .goto 4, 3), (14, .iconst 0, 1), (15, .ireturn, 1)]
theorem zX7_isLost : (tX7_isLost.all fun q => decide (decode cX7_isLost q.1 = .ok q.2)) = true := by decide +kernel
def tX7_size : List (Nat × Instr × Nat) := [(0, .aload_n 0, 1), (1, .getfield 16, 3), (4, .iload_n 1, 1), (5, .iaload, 1), (6, .ireturn, 1)]
theorem zX7_size : (tX7_size.all fun q => decide (decode cX7_size q.1 = .ok q.2)) = true := by decide +kernel
def tX7_make : List (Nat × Instr × Nat) := [(0, .aload_n 0, 1), (1, .getfield 20, 3), (4, .iload_n 1, 1), (5, .iload_n 2, 1), (6, .iastore, 1), (7, .aload_n 0, 1), (8, .getfield 16, 3), (11, .iload_n 1, 1), (12, .iload_n 3, 1), (13, .iastore, 1), (14, .aload_n 0, 1), (15, .getfield 11, 3), (18, .iload_n 1, 1), (19, .aaload, 1), (20, .iconst 0, 1), (21, .invokestatic 23, 3), (24, .return_, 1)]
theorem zX7_make : (tX7_make.all fun q => decide (decode cX7_make q.1 = .ok q.2)) = true := by decide +kernel
def tX7_drop : List (Nat × Instr × Nat) := [(0, .aload_n 0, 1), (1, .getfield 20, 3), (4, .iload_n 1, 1), (5, .iconst (-1), 1), (6, .iastore, 1), (7, .aload_n 0, 1), (8, .getfield 16, 3), (11, .iload_n 1, 1), (12, .iconst 0, 1), (13, .iastore, 1), (14, .return_, 1)]
theorem zX7_drop : (tX7_drop.all fun q => decide (decode cX7_drop q.1 = .ok q.2)) = true := by decide +kernel
def tX7_findingAt : List (Nat × Instr × Nat) := [(0, .aload_n 0, 1), (1, .iload_n 1, 1), (2, .invokevirtual 33, 3), (5, .ifCond .eq 5, 3), (8, .iconst 1, 1), (9, .ireturn, 1), (10, .aload_n 0, 1), (11, .getfield 20, 3), (14, .iload_n 1, 1), (15, .iaload, 1), (16, .iload_n 2, 1), (17, .if_icmp .eq 5, 3), (20, .iconst 3, 1), (21, .ireturn, 1), (22, .iload_n 3, 1), (23, .ifCond .lt 13, 3), (26, .iload_n 3, 1), (27, .aload_n 0, 1), (28, .getfield 16, 3), (31, .iload_n 1, 1), (32, .iaload, 1), (33, .if_icmp .lt 7, 3), (36, .iconst 2, 1), (37, .goto 4, 3), (40, .iconst 0, 1), (41, .ireturn, 1)]
theorem zX7_findingAt : (tX7_findingAt.all fun q => decide (decode cX7_findingAt q.1 = .ok q.2)) = true := by decide +kernel
def tX7_hasRun : List (Nat × Instr × Nat) := [(0, .iload_n 2, 1), (1, .ifCond .lt 33, 3), (4, .iload_n 3, 1), (5, .ifCond .lt 29, 3), (8, .iload_n 2, 1), (9, .aload_n 0, 1), (10, .getfield 16, 3), (13, .iload_n 1, 1), (14, .iaload, 1), (15, .if_icmp .gt 19, 3), (18, .iload_n 3, 1), (19, .aload_n 0, 1), (20, .getfield 16, 3), (23, .iload_n 1, 1), (24, .iaload, 1), (25, .iload_n 2, 1), (26, .isub, 1), (27, .if_icmp .gt 7, 3), (30, .iconst 1, 1), (31, .goto 4, 3), (34, .iconst 0, 1), (35, .ireturn, 1)]
theorem zX7_hasRun : (tX7_hasRun.all fun q => decide (decode cX7_hasRun q.1 = .ok q.2)) = true := by decide +kernel
def tX7_findingOfCopy : List (Nat × Instr × Nat) := [(0, .aload_n 0, 1), (1, .iload_n 1, 1), (2, .invokevirtual 33, 3), (5, .ifCond .ne 11, 3), (8, .aload_n 0, 1), (9, .iload_n 3, 1), (10, .invokevirtual 33, 3), (13, .ifCond .eq 5, 3), (16, .iconst 1, 1), (17, .ireturn, 1), (18, .aload_n 0, 1), (19, .getfield 20, 3), (22, .iload_n 1, 1), (23, .iaload, 1), (24, .aload_n 0, 1), (25, .getfield 20, 3), (28, .iload_n 3, 1), (29, .iaload, 1), (30, .if_icmp .eq 5, 3), (33, .iconst 4, 1), (34, .ireturn, 1), (35, .aload_n 0, 1), (36, .iload_n 1, 1), (37, .iload_n 2, 1), (38, .iload 5, 2), (40, .invokevirtual 37, 3), (43, .ifCond .eq 19, 3), (46, .aload_n 0, 1), (47, .iload_n 3, 1), (48, .iload 4, 2), (50, .iload 5, 2), (52, .invokevirtual 37, 3), (55, .ifCond .eq 7, 3), (58, .iconst 0, 1), (59, .goto 4, 3), (62, .iconst 2, 1), (63, .ireturn, 1)]
theorem zX7_findingOfCopy : (tX7_findingOfCopy.all fun q => decide (decode cX7_findingOfCopy q.1 = .ok q.2)) = true := by decide +kernel
def tX7_item : List (Nat × Instr × Nat) := [(0, .iload_n 2, 1), (1, .ifCond .lt 24, 3), (4, .iload_n 2, 1), (5, .aload_n 0, 1), (6, .getfield 16, 3), (9, .iload_n 1, 1), (10, .iaload, 1), (11, .if_icmp .ge 14, 3), (14, .aload_n 0, 1), (15, .getfield 11, 3), (18, .iload_n 1, 1), (19, .aaload, 1), (20, .iload_n 2, 1), (21, .iaload, 1), (22, .goto 4, 3), (25, .iconst 0, 1), (26, .ireturn, 1)]
theorem zX7_item : (tX7_item.all fun q => decide (decode cX7_item q.1 = .ok q.2)) = true := by decide +kernel
def tX7_put : List (Nat × Instr × Nat) := [(0, .iload_n 2, 1), (1, .ifCond .lt 13, 3), (4, .iload_n 2, 1), (5, .aload_n 0, 1), (6, .getfield 16, 3), (9, .iload_n 1, 1), (10, .iaload, 1), (11, .if_icmp .lt 4, 3), (14, .return_, 1), (15, .aload_n 0, 1), (16, .getfield 20, 3), (19, .iload_n 1, 1), (20, .iaload, 1), (21, .ifCond .ne 16, 3), (24, .aload_n 0, 1), (25, .getfield 11, 3), (28, .iload_n 1, 1), (29, .aaload, 1), (30, .iload_n 2, 1), (31, .iload_n 3, 1), (32, .i2b, 1), (33, .iastore, 1), (34, .goto 35, 3), (37, .aload_n 0, 1), (38, .getfield 20, 3), (41, .iload_n 1, 1), (42, .iaload, 1), (43, .iconst 1, 1), (44, .if_icmp .ne 16, 3), (47, .aload_n 0, 1), (48, .getfield 11, 3), (51, .iload_n 1, 1), (52, .aaload, 1), (53, .iload_n 2, 1), (54, .iload_n 3, 1), (55, .i2s, 1), (56, .iastore, 1), (57, .goto 12, 3), (60, .aload_n 0, 1), (61, .getfield 11, 3), (64, .iload_n 1, 1), (65, .aaload, 1), (66, .iload_n 2, 1), (67, .iload_n 3, 1), (68, .iastore, 1), (69, .return_, 1)]
theorem zX7_put : (tX7_put.all fun q => decide (decode cX7_put q.1 = .ok q.2)) = true := by decide +kernel
def tX7_move : List (Nat × Instr × Nat) := [(0, .aload_n 0, 1), (1, .iload_n 1, 1), (2, .iload_n 2, 1), (3, .iload 5, 2), (5, .invokevirtual 37, 3), (8, .ifCond .eq 35, 3), (11, .aload_n 0, 1), (12, .iload_n 3, 1), (13, .iload 4, 2), (15, .iload 5, 2), (17, .invokevirtual 37, 3), (20, .ifCond .eq 23, 3), (23, .aload_n 0, 1), (24, .getfield 11, 3), (27, .iload_n 1, 1), (28, .aaload, 1), (29, .iload_n 2, 1), (30, .aload_n 0, 1), (31, .getfield 11, 3), (34, .iload_n 3, 1), (35, .aaload, 1), (36, .iload 4, 2), (38, .iload 5, 2), (40, .invokestatic 41, 3), (43, .return_, 1)]
theorem zX7_move : (tX7_move.all fun q => decide (decode cX7_move q.1 = .ok q.2)) = true := by decide +kernel
def tX8_isFull : List (Nat × Instr × Nat) := [(0, .aload_n 0, 1), (1, .getfield 25, 3), (4, .aload_n 0, 1), (5, .getfield 21, 3), (8, .if_icmp .lt 7, 3), (11, .iconst 1, 1), (12, .goto 4, 3), (15, .iconst 0, 1), (16, .ireturn, 1)]
theorem zX8_isFull : (tX8_isFull.all fun q => decide (decode cX8_isFull q.1 = .ok q.2)) = true := by decide +kernel
def tX8_append : List (Nat × Instr × Nat) := [(0, .aload_n 0, 1), (1, .getfield 25, 3), (4, .aload_n 0, 1), (5, .getfield 21, 3), (8, .if_icmp .ge 23, 3), (11, .aload_n 0, 1), (12, .getfield 9, 3), (15, .aload_n 0, 1), (16, .getfield 25, 3), (19, .iload_n 1, 1), (20, .iastore, 1), (21, .aload_n 0, 1), (22, .dup, 1), (23, .getfield 25, 3), (26, .iconst 1, 1), (27, .iadd, 1), (28, .putfield 25, 3), (31, .return_, 1)]
theorem zX8_append : (tX8_append.all fun q => decide (decode cX8_append q.1 = .ok q.2)) = true := by decide +kernel
def tX8_empty : List (Nat × Instr × Nat) := [(0, .aload_n 0, 1), (1, .iconst 0, 1), (2, .putfield 25, 3), (5, .return_, 1)]
theorem zX8_empty : (tX8_empty.all fun q => decide (decode cX8_empty q.1 = .ok q.2)) = true := by decide +kernel
def tX9_joinTowns : List (Nat × Instr × Nat) := [(0, .aload_n 0, 1), (1, .getfield 12, 3), (4, .aload_n 0, 1), (5, .getfield 37, 3), (8, .aload_n 0, 1), (9, .getfield 37, 3), (12, .invokevirtual 84, 3), (15, .invokevirtual 87, 3), (18, .iconst 0, 1), (19, .istore_n 1, 1), (20, .iload_n 1, 1), (21, .bipush 8, 2), (23, .if_icmp .ge 23, 3), (26, .aload_n 0, 1), (27, .getfield 18, 3), (30, .iload_n 1, 1), (31, .aload_n 0, 1), (32, .getfield 12, 3), (35, .iload_n 1, 1), (36, .invokevirtual 91, 3), (39, .iastore, 1), (40, .iinc 1 1, 3), (43, .goto (-23), 3), (46, .return_, 1)]
theorem zX9_joinTowns : (tX9_joinTowns.all fun q => decide (decode cX9_joinTowns q.1 = .ok q.2)) = true := by decide +kernel
def tX9_goOnByLanes : List (Nat × Instr × Nat) := [(0, .aload_n 0, 1), (1, .getfield 37, 3), (4, .invokevirtual 84, 3), (7, .istore_n 3, 1), (8, .iload_n 2, 1), (9, .bipush 8, 2), (11, .imul, 1), (12, .istore 4, 2), (14, .iload 4, 2), (16, .bipush 8, 2), (18, .isub, 1), (19, .istore 5, 2), (21, .iconst 0, 1), (22, .istore 6, 2), (24, .iload 6, 2), (26, .aload_n 0, 1), (27, .getfield 37, 3), (30, .invokevirtual 115, 3), (33, .if_icmp .ge 83, 3), (36, .iload_n 3, 1), (37, .ifCond .eq 79, 3), (40, .iload_n 3, 1), (41, .iload 6, 2), (43, .ishr, 1), (44, .iconst 1, 1), (45, .iand, 1), (46, .iconst 1, 1), (47, .if_icmp .ne 63, 3), (50, .aload_n 0, 1), (51, .getfield 37, 3), (54, .iconst 2, 1), (55, .iload 6, 2), (57, .imul, 1), (58, .invokevirtual 94, 3), (61, .istore 7, 2), (63, .aload_n 0, 1), (64, .getfield 37, 3), (67, .iconst 2, 1), (68, .iload 6, 2), (70, .imul, 1), (71, .invokevirtual 81, 3), (74, .istore 8, 2), (76, .aload_n 1, 1), (77, .iload 4, 2), (79, .iload 8, 2), (81, .iadd, 1), (82, .dup2, 1), (83, .laload, 1), (84, .aload_n 1, 1), (85, .iload 5, 2), (87, .iload 7, 2), (89, .iadd, 1), (90, .laload, 1), (91, .ladd, 1), (92, .lastore, 1), (93, .aload_n 1, 1), (94, .iload 4, 2), (96, .iload 7, 2), (98, .iadd, 1), (99, .dup2, 1), (100, .laload, 1), (101, .aload_n 1, 1), (102, .iload 5, 2), (104, .iload 8, 2), (106, .iadd, 1), (107, .laload, 1), (108, .ladd, 1), (109, .lastore, 1), (110, .iinc 6 1, 3), (113, .goto (-89), 3), (116, .return_, 1)]
theorem zX9_goOnByLanes : (tX9_goOnByLanes.all fun q => decide (decode cX9_goOnByLanes q.1 = .ok q.2)) = true := by decide +kernel
def tX9_behindRounds : List (Nat × Instr × Nat) := [(0, .iload_n 2, 1), (1, .iconst (-1), 1), (2, .if_icmp .eq 20, 3), (5, .aload_n 0, 1), (6, .getfield 37, 3), (9, .iload_n 2, 1), (10, .invokevirtual 81, 3), (13, .iload 4, 2), (15, .if_icmp .ne 7, 3), (18, .iconst 1, 1), (19, .goto 4, 3), (22, .iconst 0, 1), (23, .istore 5, 2), (25, .iload 5, 2), (27, .ifCond .eq 14, 3), (30, .aload_n 0, 1), (31, .getfield 37, 3), (34, .iload_n 2, 1), (35, .invokevirtual 94, 3), (38, .goto 4, 3), (41, .iconst (-1), 1), (42, .istore 6, 2), (44, .lconst 0, 1), (45, .lstore 7, 2), (47, .iconst 2, 1), (48, .istore 9, 2), (50, .iload 9, 2), (52, .iload_n 3, 1), (53, .if_icmp .gt 84, 3), (56, .aload_n 1, 1), (57, .iload_n 3, 1), (58, .iload 9, 2), (60, .isub, 1), (61, .bipush 8, 2), (63, .imul, 1), (64, .iload 4, 2), (66, .iadd, 1), (67, .laload, 1), (68, .lstore 10, 2), (70, .lload 10, 2), (72, .lconst 0, 1), (73, .lcmp, 1), (74, .ifCond .eq 57, 3), (77, .iload 5, 2), (79, .ifCond .eq 25, 3), (82, .aload_n 0, 1), (83, .getfield 24, 3), (86, .iload_n 2, 1), (87, .iconst 1, 1), (88, .ixor, 1), (89, .aaload, 1), (90, .iload 9, 2), (92, .iconst 2, 1), (93, .isub, 1), (94, .bipush 8, 2), (96, .imul, 1), (97, .iload 6, 2), (99, .iadd, 1), (100, .laload, 1), (101, .goto 4, 3), (104, .lconst 0, 1), (105, .lstore 12, 2), (107, .lload 7, 2), (109, .lload 10, 2), (111, .aload_n 0, 1), (112, .getfield 27, 3), (115, .iload 9, 2), (117, .bipush 8, 2), (119, .imul, 1), (120, .iload 4, 2), (122, .iadd, 1), (123, .laload, 1), (124, .lload 12, 2), (126, .lsub, 1), (127, .lmul, 1), (128, .ladd, 1), (129, .lstore 7, 2), (131, .iinc 9 1, 3), (134, .goto (-84), 3), (137, .lload 7, 2), (139, .lreturn, 1)]
theorem zX9_behindRounds : (tX9_behindRounds.all fun q => decide (decode cX9_behindRounds q.1 = .ok q.2)) = true := by decide +kernel
def tX9_lengthen : List (Nat × Instr × Nat) := [(0, .iload 4, 2), (2, .ifCond .le 10, 3), (5, .aload_n 0, 1), (6, .aload_n 1, 1), (7, .iload 4, 2), (9, .invokevirtual 107, 3), (12, .iconst 0, 1), (13, .istore 5, 2), (15, .iload 5, 2), (17, .bipush 8, 2), (19, .if_icmp .ge 47, 3), (22, .aload_n 0, 1), (23, .getfield 18, 3), (26, .iload_n 2, 1), (27, .iaload, 1), (28, .iload 5, 2), (30, .ishr, 1), (31, .iconst 1, 1), (32, .iand, 1), (33, .iconst 1, 1), (34, .if_icmp .ne 26, 3), (37, .aload_n 1, 1), (38, .iload 4, 2), (40, .bipush 8, 2), (42, .imul, 1), (43, .iload 5, 2), (45, .iadd, 1), (46, .dup2, 1), (47, .laload, 1), (48, .aload_n 0, 1), (49, .aload_n 1, 1), (50, .iload_n 3, 1), (51, .iload 4, 2), (53, .iload 5, 2), (55, .invokevirtual 111, 3), (58, .ladd, 1), (59, .lastore, 1), (60, .iinc 5 1, 3), (63, .goto (-48), 3), (66, .return_, 1)]
theorem zX9_lengthen : (tX9_lengthen.all fun q => decide (decode cX9_lengthen q.1 = .ok q.2)) = true := by decide +kernel
def tX9_countRounds : List (Nat × Instr × Nat) := [(0, .aload_n 0, 1), (1, .getfield 27, 3), (4, .lconst 0, 1), (5, .invokestatic 58, 3), (8, .iconst 0, 1), (9, .istore_n 2, 1), (10, .iload_n 2, 1), (11, .aload_n 0, 1), (12, .getfield 37, 3), (15, .invokevirtual 101, 3), (18, .if_icmp .ge 35, 3), (21, .aload_n 0, 1), (22, .getfield 24, 3), (25, .iload_n 2, 1), (26, .aaload, 1), (27, .lconst 0, 1), (28, .invokestatic 58, 3), (31, .aload_n 0, 1), (32, .getfield 24, 3), (35, .iload_n 2, 1), (36, .aaload, 1), (37, .aload_n 0, 1), (38, .getfield 37, 3), (41, .iload_n 2, 1), (42, .invokevirtual 81, 3), (45, .lconst 1, 1), (46, .lastore, 1), (47, .iinc 2 1, 3), (50, .goto (-40), 3), (53, .iconst 0, 1), (54, .istore_n 2, 1), (55, .iload_n 2, 1), (56, .iconst 2, 1), (57, .iadd, 1), (58, .iload_n 1, 1), (59, .if_icmp .gt 111, 3), (62, .iconst 0, 1), (63, .istore_n 3, 1), (64, .iload_n 3, 1), (65, .aload_n 0, 1), (66, .getfield 37, 3), (69, .invokevirtual 101, 3), (72, .if_icmp .ge 92, 3), (75, .aload_n 0, 1), (76, .getfield 37, 3), (79, .iload_n 3, 1), (80, .invokevirtual 72, 3), (83, .ifCond .eq 75, 3), (86, .aload_n 0, 1), (87, .getfield 37, 3), (90, .iload_n 3, 1), (91, .invokevirtual 104, 3), (94, .ifCond .eq 64, 3), (97, .aload_n 0, 1), (98, .getfield 37, 3), (101, .iload_n 3, 1), (102, .invokevirtual 81, 3), (105, .istore 4, 2), (107, .aload_n 0, 1), (108, .aload_n 0, 1), (109, .getfield 24, 3), (112, .iload_n 3, 1), (113, .aaload, 1), (114, .iload 4, 2), (116, .iload_n 3, 1), (117, .iload_n 2, 1), (118, .invokevirtual 97, 3), (121, .aload_n 0, 1), (122, .getfield 27, 3), (125, .iload_n 2, 1), (126, .iconst 2, 1), (127, .iadd, 1), (128, .bipush 8, 2), (130, .imul, 1), (131, .aload_n 0, 1), (132, .getfield 37, 3), (135, .iload_n 3, 1), (136, .invokevirtual 94, 3), (139, .iadd, 1), (140, .dup2, 1), (141, .laload, 1), (142, .aload_n 0, 1), (143, .getfield 24, 3), (146, .iload_n 3, 1), (147, .aaload, 1), (148, .iload_n 2, 1), (149, .bipush 8, 2), (151, .imul, 1), (152, .iload 4, 2), (154, .iadd, 1), (155, .laload, 1), (156, .ladd, 1), (157, .lastore, 1), (158, .iinc 3 1, 3), (161, .goto (-97), 3), (164, .iinc 2 1, 3), (167, .goto (-112), 3), (170, .return_, 1)]
theorem zX9_countRounds : (tX9_countRounds.all fun q => decide (decode cX9_countRounds q.1 = .ok q.2)) = true := by decide +kernel
def tX9_countFrom : List (Nat × Instr × Nat) := [(0, .aload_n 0, 1), (1, .getfield 31, 3), (4, .lconst 0, 1), (5, .invokestatic 58, 3), (8, .iconst 0, 1), (9, .istore 4, 2), (11, .iload 4, 2), (13, .iload_n 3, 1), (14, .if_icmp .gt 40, 3), (17, .aload_n 0, 1), (18, .getfield 31, 3), (21, .iload 4, 2), (23, .bipush 8, 2), (25, .imul, 1), (26, .iload_n 1, 1), (27, .iadd, 1), (28, .aload_n 0, 1), (29, .getfield 34, 3), (32, .iload 4, 2), (34, .laload, 1), (35, .lastore, 1), (36, .aload_n 0, 1), (37, .aload_n 0, 1), (38, .getfield 31, 3), (41, .iload_n 1, 1), (42, .iload_n 2, 1), (43, .iload 4, 2), (45, .invokevirtual 97, 3), (48, .iinc 4 1, 3), (51, .goto (-40), 3), (54, .return_, 1)]
theorem zX9_countFrom : (tX9_countFrom.all fun q => decide (decode cX9_countFrom q.1 = .ok q.2)) = true := by decide +kernel
def tX9_stampForGood : List (Nat × Instr × Nat) := [(0, .aload_n 0, 1), (1, .getfield 37, 3), (4, .iload_n 1, 1), (5, .invokevirtual 94, 3), (8, .istore_n 3, 1), (9, .aload_n 0, 1), (10, .getfield 34, 3), (13, .iconst 0, 1), (14, .lconst 0, 1), (15, .lastore, 1), (16, .iconst 1, 1), (17, .istore 4, 2), (19, .iload 4, 2), (21, .iload_n 2, 1), (22, .if_icmp .gt 30, 3), (25, .aload_n 0, 1), (26, .getfield 34, 3), (29, .iload 4, 2), (31, .aload_n 0, 1), (32, .getfield 31, 3), (35, .iload 4, 2), (37, .iconst 1, 1), (38, .isub, 1), (39, .bipush 8, 2), (41, .imul, 1), (42, .iload_n 3, 1), (43, .iadd, 1), (44, .laload, 1), (45, .lastore, 1), (46, .iinc 4 1, 3), (49, .goto (-30), 3), (52, .return_, 1)]
theorem zX9_stampForGood : (tX9_stampForGood.all fun q => decide (decode cX9_stampForGood q.1 = .ok q.2)) = true := by decide +kernel
def tX9_number : List (Nat × Instr × Nat) := [(0, .aload_n 2, 1), (1, .invokevirtual 41, 3), (4, .iload 4, 2), (6, .if_icmp .gt 24, 3), (9, .iload 4, 2), (11, .bipush 13, 2), (13, .if_icmp .ge 17, 3), (16, .iload_n 1, 1), (17, .invokestatic 47, 3), (20, .ifCond .eq 10, 3), (23, .iload_n 3, 1), (24, .invokestatic 47, 3), (27, .ifCond .ne 5, 3), (30, .lconst 0, 1), (31, .lreturn, 1), (32, .aload_n 0, 1), (33, .invokevirtual 51, 3), (36, .aload_n 0, 1), (37, .iload 4, 2), (39, .invokevirtual 54, 3), (42, .aload_n 0, 1), (43, .getfield 34, 3), (46, .lconst 0, 1), (47, .invokestatic 58, 3), (50, .aload_n 0, 1), (51, .getfield 34, 3), (54, .iconst 0, 1), (55, .lconst 1, 1), (56, .lastore, 1), (57, .aload_n 0, 1), (58, .iload_n 1, 1), (59, .iconst (-1), 1), (60, .iload 4, 2), (62, .invokevirtual 64, 3), (65, .iconst 0, 1), (66, .istore 5, 2), (68, .iload 5, 2), (70, .aload_n 2, 1), (71, .invokevirtual 41, 3), (74, .if_icmp .ge 56, 3), (77, .aload_n 2, 1), (78, .iload 5, 2), (80, .invokevirtual 68, 3), (83, .istore 6, 2), (85, .aload_n 0, 1), (86, .getfield 37, 3), (89, .iload 6, 2), (91, .invokevirtual 72, 3), (94, .ifCond .ne 5, 3), (97, .lconst 0, 1), (98, .lreturn, 1), (99, .aload_n 0, 1), (100, .iload 6, 2), (102, .iload 4, 2), (104, .invokevirtual 77, 3), (107, .aload_n 0, 1), (108, .aload_n 0, 1), (109, .getfield 37, 3), (112, .iload 6, 2), (114, .invokevirtual 81, 3), (117, .iload 6, 2), (119, .iload 4, 2), (121, .invokevirtual 64, 3), (124, .iinc 5 1, 3), (127, .goto (-59), 3), (130, .aload_n 0, 1), (131, .getfield 31, 3), (134, .iload 4, 2), (136, .bipush 8, 2), (138, .imul, 1), (139, .iload_n 3, 1), (140, .iadd, 1), (141, .laload, 1), (142, .lreturn, 1)]
theorem zX9_number : (tX9_number.all fun q => decide (decode cX9_number q.1 = .ok q.2)) = true := by decide +kernel
def tX10_isText : List (Nat × Instr × Nat) := [(0, .iload_n 0, 1), (1, .ifCond .lt 12, 3), (4, .iload_n 0, 1), (5, .iconst 4, 1), (6, .if_icmp .ge 7, 3), (9, .iconst 1, 1), (10, .goto 4, 3), (13, .iconst 0, 1), (14, .ireturn, 1)]
theorem zX10_isText : (tX10_isText.all fun q => decide (decode cX10_isText q.1 = .ok q.2)) = true := by decide +kernel
def tX10_learnIfLand : List (Nat × Instr × Nat) := [(0, .iload_n 1, 1), (1, .ifCond .ne 16, 3), (4, .aload_n 0, 1), (5, .getfield 12, 3), (8, .aload_n 0, 1), (9, .getfield 18, 3), (12, .iconst 0, 1), (13, .aaload, 1), (14, .invokevirtual 397, 3), (17, .return_, 1)]
theorem zX10_learnIfLand : (tX10_learnIfLand.all fun q => decide (decode cX10_learnIfLand q.1 = .ok q.2)) = true := by decide +kernel
def tX10_type : List (Nat × Instr × Nat) := [(0, .iload_n 1, 1), (1, .invokestatic 89, 3), (4, .ifCond .eq 14, 3), (7, .iload_n 2, 1), (8, .ifCond .lt 10, 3), (11, .iload_n 2, 1), (12, .sipush 255, 3), (15, .if_icmp .le 6, 3), (18, .bipush (-2), 2), (20, .ireturn, 1), (21, .aload_n 0, 1), (22, .getfield 18, 3), (25, .iload_n 1, 1), (26, .aaload, 1), (27, .invokevirtual 93, 3), (30, .ifCond .eq 6, 3), (33, .bipush (-4), 2), (35, .ireturn, 1), (36, .aload_n 0, 1), (37, .getfield 18, 3), (40, .iload_n 1, 1), (41, .aaload, 1), (42, .iload_n 2, 1), (43, .invokevirtual 97, 3), (46, .aload_n 0, 1), (47, .iload_n 1, 1), (48, .invokevirtual 100, 3), (51, .aload_n 0, 1), (52, .getfield 18, 3), (55, .iload_n 1, 1), (56, .aaload, 1), (57, .invokevirtual 103, 3), (60, .ireturn, 1)]
theorem zX10_type : (tX10_type.all fun q => decide (decode cX10_type q.1 = .ok q.2)) = true := by decide +kernel
def tX10_wipe : List (Nat × Instr × Nat) := [(0, .iload_n 1, 1), (1, .invokestatic 89, 3), (4, .ifCond .ne 6, 3), (7, .bipush (-2), 2), (9, .ireturn, 1), (10, .aload_n 0, 1), (11, .getfield 18, 3), (14, .iload_n 1, 1), (15, .aaload, 1), (16, .invokevirtual 103, 3), (19, .istore_n 2, 1), (20, .aload_n 0, 1), (21, .getfield 18, 3), (24, .iload_n 1, 1), (25, .aaload, 1), (26, .invokevirtual 107, 3), (29, .aload_n 0, 1), (30, .iload_n 1, 1), (31, .invokevirtual 100, 3), (34, .iload_n 2, 1), (35, .ireturn, 1)]
theorem zX10_wipe : (tX10_wipe.all fun q => decide (decode cX10_wipe q.1 = .ok q.2)) = true := by decide +kernel
def tX10_wayFault : List (Nat × Instr × Nat) := [(0, .iconst 0, 1), (1, .istore_n 2, 1), (2, .iload_n 2, 1), (3, .aload_n 1, 1), (4, .invokevirtual 103, 3), (7, .if_icmp .ge 27, 3), (10, .aload_n 0, 1), (11, .getfield 12, 3), (14, .aload_n 1, 1), (15, .iload_n 2, 1), (16, .invokevirtual 401, 3), (19, .invokevirtual 234, 3), (22, .iconst (-1), 1), (23, .if_icmp .ne 5, 3), (26, .iload_n 2, 1), (27, .ireturn, 1), (28, .iinc 2 1, 3), (31, .goto (-29), 3), (34, .iconst (-1), 1), (35, .ireturn, 1)]
theorem zX10_wayFault : (tX10_wayFault.all fun q => decide (decode cX10_wayFault q.1 = .ok q.2)) = true := by decide +kernel
def tX10_fault : List (Nat × Instr × Nat) := [(0, .iload_n 1, 1), (1, .invokestatic 89, 3), (4, .ifCond .ne 6, 3), (7, .bipush (-2), 2), (9, .ireturn, 1), (10, .iload_n 1, 1), (11, .ifCond .ne 13, 3), (14, .aload_n 0, 1), (15, .getfield 12, 3), (18, .invokevirtual 110, 3), (21, .goto 13, 3), (24, .aload_n 0, 1), (25, .aload_n 0, 1), (26, .getfield 18, 3), (29, .iload_n 1, 1), (30, .aaload, 1), (31, .invokevirtual 113, 3), (34, .ireturn, 1)]
theorem zX10_fault : (tX10_fault.all fun q => decide (decode cX10_fault q.1 = .ok q.2)) = true := by decide +kernel
def tX10_gate : List (Nat × Instr × Nat) := [(0, .aload_n 0, 1), (1, .getfield 12, 3), (4, .iload_n 1, 1), (5, .invokevirtual 117, 3), (8, .ifCond .eq 12, 3), (11, .iload_n 2, 1), (12, .ifCond .lt 8, 3), (15, .iload_n 2, 1), (16, .iconst 3, 1), (17, .if_icmp .le 6, 3), (20, .bipush (-2), 2), (22, .ireturn, 1), (23, .iload_n 2, 1), (24, .tableswitch 69 0 2 #[28, 39, 50], 28), (52, .aload_n 0, 1), (53, .getfield 12, 3), (56, .iconst 2, 1), (57, .iload_n 1, 1), (58, .imul, 1), (59, .invokevirtual 120, 3), (62, .ireturn, 1), (63, .aload_n 0, 1), (64, .getfield 12, 3), (67, .iconst 2, 1), (68, .iload_n 1, 1), (69, .imul, 1), (70, .invokevirtual 124, 3), (73, .ireturn, 1), (74, .aload_n 0, 1), (75, .getfield 12, 3), (78, .iconst 2, 1), (79, .iload_n 1, 1), (80, .imul, 1), (81, .invokevirtual 127, 3), (84, .ifCond .eq 7, 3), (87, .iconst 1, 1), (88, .goto 4, 3), (91, .iconst 0, 1), (92, .ireturn, 1), (93, .aload_n 0, 1), (94, .getfield 12, 3), (97, .iconst 2, 1), (98, .iload_n 1, 1), (99, .imul, 1), (100, .invokevirtual 130, 3), (103, .ifCond .eq 7, 3), (106, .iconst 0, 1), (107, .goto 4, 3), (110, .iconst 1, 1), (111, .ireturn, 1)]
theorem zX10_gate : (tX10_gate.all fun q => decide (decode cX10_gate q.1 = .ok q.2)) = true := by decide +kernel
def tX10_room : List (Nat × Instr × Nat) := [(0, .aload_n 0, 1), (1, .getfield 12, 3), (4, .invokevirtual 133, 3), (7, .ireturn, 1)]
theorem zX10_room : (tX10_room.all fun q => decide (decode cX10_room q.1 = .ok q.2)) = true := by decide +kernel
def tX10_shut : List (Nat × Instr × Nat) := [(0, .iload_n 1, 1), (1, .ifCond .lt 10, 3), (4, .iload_n 1, 1), (5, .sipush 511, 3), (8, .if_icmp .le 6, 3), (11, .bipush (-2), 2), (13, .ireturn, 1), (14, .aload_n 0, 1), (15, .getfield 12, 3), (18, .iload_n 1, 1), (19, .invokevirtual 136, 3), (22, .ireturn, 1)]
theorem zX10_shut : (tX10_shut.all fun q => decide (decode cX10_shut q.1 = .ok q.2)) = true := by decide +kernel
def tX10_isWay : List (Nat × Instr × Nat) := [(0, .iload_n 0, 1), (1, .iconst 1, 1), (2, .if_icmp .lt 12, 3), (5, .iload_n 0, 1), (6, .iconst 4, 1), (7, .if_icmp .ge 7, 3), (10, .iconst 1, 1), (11, .goto 4, 3), (14, .iconst 0, 1), (15, .ireturn, 1)]
theorem zX10_isWay : (tX10_isWay.all fun q => decide (decode cX10_isWay q.1 = .ok q.2)) = true := by decide +kernel
def tX10_stampWay : List (Nat × Instr × Nat) := [(0, .aload_n 2, 1), (1, .invokevirtual 200, 3), (4, .iload_n 1, 1), (5, .invokestatic 139, 3), (8, .ifCond .eq 17, 3), (11, .aload_n 0, 1), (12, .aload_n 0, 1), (13, .getfield 18, 3), (16, .iload_n 1, 1), (17, .aaload, 1), (18, .invokevirtual 113, 3), (21, .iconst (-1), 1), (22, .if_icmp .eq 4, 3), (25, .return_, 1), (26, .iconst 0, 1), (27, .istore_n 3, 1), (28, .iload_n 3, 1), (29, .aload_n 0, 1), (30, .getfield 18, 3), (33, .iload_n 1, 1), (34, .aaload, 1), (35, .invokevirtual 103, 3), (38, .if_icmp .ge 46, 3), (41, .aload_n 0, 1), (42, .getfield 12, 3), (45, .aload_n 0, 1), (46, .getfield 18, 3), (49, .iload_n 1, 1), (50, .aaload, 1), (51, .iload_n 3, 1), (52, .invokevirtual 401, 3), (55, .invokevirtual 234, 3), (58, .istore 4, 2), (60, .aload_n 0, 1), (61, .getfield 12, 3), (64, .iload 4, 2), (66, .invokevirtual 127, 3), (69, .ifCond .eq 9, 3), (72, .aload_n 2, 1), (73, .iload 4, 2), (75, .invokevirtual 241, 3), (78, .iinc 3 1, 3), (81, .goto (-53), 3), (84, .return_, 1)]
theorem zX10_stampWay : (tX10_stampWay.all fun q => decide (decode cX10_stampWay q.1 = .ok q.2)) = true := by decide +kernel
def tX10_byteOf : List (Nat × Instr × Nat) := [(0, .iload_n 0, 1), (1, .iconst (-1), 1), (2, .if_icmp .ne 5, 3), (5, .iconst (-1), 1), (6, .ireturn, 1), (7, .iload_n 0, 1), (8, .iconst 1, 1), (9, .iand, 1), (10, .ifCond .ne 8, 3), (13, .bipush 97, 2), (15, .goto 5, 3), (18, .bipush 65, 2), (20, .iload_n 0, 1), (21, .iconst 1, 1), (22, .ishr, 1), (23, .iadd, 1), (24, .ireturn, 1)]
theorem zX10_byteOf : (tX10_byteOf.all fun q => decide (decode cX10_byteOf q.1 = .ok q.2)) = true := by decide +kernel
def tX10_paper : List (Nat × Instr × Nat) := [(0, .iload_n 1, 1), (1, .invokestatic 139, 3), (4, .ifCond .eq 8, 3), (7, .iload_n 2, 1), (8, .iconst (-1), 1), (9, .if_icmp .ge 6, 3), (12, .bipush (-2), 2), (14, .ireturn, 1), (15, .aload_n 0, 1), (16, .iload_n 1, 1), (17, .aload_n 0, 1), (18, .getfield 25, 3), (21, .invokevirtual 142, 3), (24, .iload_n 2, 1), (25, .iconst (-1), 1), (26, .if_icmp .ne 13, 3), (29, .aload_n 0, 1), (30, .getfield 25, 3), (33, .invokevirtual 146, 3), (36, .goto 14, 3), (39, .aload_n 0, 1), (40, .getfield 25, 3), (43, .iload_n 2, 1), (44, .invokevirtual 147, 3), (47, .invokestatic 150, 3), (50, .ireturn, 1)]
theorem zX10_paper : (tX10_paper.all fun q => decide (decode cX10_paper q.1 = .ok q.2)) = true := by decide +kernel
def tX10_isWayOrClean : List (Nat × Instr × Nat) := [(0, .iload_n 0, 1), (1, .ifCond .lt 12, 3), (4, .iload_n 0, 1), (5, .iconst 4, 1), (6, .if_icmp .ge 7, 3), (9, .iconst 1, 1), (10, .goto 4, 3), (13, .iconst 0, 1), (14, .ireturn, 1)]
theorem zX10_isWayOrClean : (tX10_isWayOrClean.all fun q => decide (decode cX10_isWayOrClean q.1 = .ok q.2)) = true := by decide +kernel
def tX10_judgeWay : List (Nat × Instr × Nat) := [(0, .aload_n 0, 1), (1, .iload_n 3, 1), (2, .aload_n 0, 1), (3, .getfield 37, 3), (6, .invokevirtual 402, 3), (9, .invokevirtual 142, 3), (12, .aload_n 0, 1), (13, .getfield 37, 3), (16, .iload_n 2, 1), (17, .invokevirtual 406, 3), (20, .aload_n 0, 1), (21, .aload_n 0, 1), (22, .getfield 18, 3), (25, .iload_n 1, 1), (26, .aaload, 1), (27, .invokevirtual 113, 3), (30, .iconst (-1), 1), (31, .if_icmp .ne 16, 3), (34, .aload_n 0, 1), (35, .getfield 37, 3), (38, .aload_n 0, 1), (39, .getfield 18, 3), (42, .iload_n 1, 1), (43, .aaload, 1), (44, .invokevirtual 409, 3), (47, .return_, 1)]
theorem zX10_judgeWay : (tX10_judgeWay.all fun q => decide (decode cX10_judgeWay q.1 = .ok q.2)) = true := by decide +kernel
def tX10_judged : List (Nat × Instr × Nat) := [(0, .iload_n 1, 1), (1, .invokestatic 139, 3), (4, .ifCond .eq 28, 3), (7, .iload_n 2, 1), (8, .invokestatic 153, 3), (11, .ifCond .eq 21, 3), (14, .iload_n 3, 1), (15, .invokestatic 156, 3), (18, .ifCond .eq 14, 3), (21, .iload 4, 2), (23, .ifCond .lt 9, 3), (26, .iload 4, 2), (28, .iconst 4, 1), (29, .if_icmp .le 6, 3), (32, .bipush (-2), 2), (34, .ireturn, 1), (35, .aload_n 0, 1), (36, .iload_n 1, 1), (37, .iload_n 2, 1), (38, .iload_n 3, 1), (39, .invokevirtual 159, 3), (42, .aload_n 0, 1), (43, .getfield 37, 3), (46, .iload 4, 2), (48, .invokevirtual 163, 3), (51, .ireturn, 1)]
theorem zX10_judged : (tX10_judged.all fun q => decide (decode cX10_judged q.1 = .ok q.2)) = true := by decide +kernel
def tX10_same : List (Nat × Instr × Nat) := [(0, .iload_n 1, 1), (1, .invokestatic 139, 3), (4, .ifCond .eq 10, 3), (7, .iload_n 2, 1), (8, .invokestatic 139, 3), (11, .ifCond .ne 6, 3), (14, .bipush (-2), 2), (16, .ireturn, 1), (17, .aload_n 0, 1), (18, .iload_n 1, 1), (19, .aload_n 0, 1), (20, .getfield 25, 3), (23, .invokevirtual 142, 3), (26, .aload_n 0, 1), (27, .iload_n 2, 1), (28, .aload_n 0, 1), (29, .getfield 29, 3), (32, .invokevirtual 142, 3), (35, .aload_n 0, 1), (36, .getfield 25, 3), (39, .aload_n 0, 1), (40, .getfield 29, 3), (43, .invokevirtual 166, 3), (46, .istore_n 3, 1), (47, .iload_n 3, 1), (48, .aload_n 0, 1), (49, .getfield 25, 3), (52, .invokevirtual 146, 3), (55, .if_icmp .ne 18, 3), (58, .iload_n 3, 1), (59, .aload_n 0, 1), (60, .getfield 29, 3), (63, .invokevirtual 146, 3), (66, .if_icmp .ne 7, 3), (69, .iconst 1, 1), (70, .goto 4, 3), (73, .iconst 0, 1), (74, .ireturn, 1)]
theorem zX10_same : (tX10_same.all fun q => decide (decode cX10_same q.1 = .ok q.2)) = true := by decide +kernel
def tX10_areEnds : List (Nat × Instr × Nat) := [(0, .iload_n 0, 1), (1, .invokestatic 153, 3), (4, .ifCond .eq 28, 3), (7, .iload_n 1, 1), (8, .invokestatic 156, 3), (11, .ifCond .eq 21, 3), (14, .iload_n 2, 1), (15, .invokestatic 153, 3), (18, .ifCond .eq 14, 3), (21, .iload_n 3, 1), (22, .invokestatic 156, 3), (25, .ifCond .eq 7, 3), (28, .iconst 1, 1), (29, .goto 4, 3), (32, .iconst 0, 1), (33, .ireturn, 1)]
theorem zX10_areEnds : (tX10_areEnds.all fun q => decide (decode cX10_areEnds q.1 = .ok q.2)) = true := by decide +kernel
def tX10_longRefusal : List (Nat × Instr × Nat) := [(0, .ldc2_w 395, 3), (3, .iload_n 0, 1), (4, .i2l, 1), (5, .lsub, 1), (6, .lreturn, 1)]
theorem zX10_longRefusal : (tX10_longRefusal.all fun q => decide (decode cX10_longRefusal q.1 = .ok q.2)) = true := by decide +kernel
def tX10_planRoute : List (Nat × Instr × Nat) := [(0, .aload_n 0, 1), (1, .iload_n 2, 1), (2, .aload_n 0, 1), (3, .getfield 25, 3), (6, .invokevirtual 142, 3), (9, .aload_n 0, 1), (10, .iload 4, 2), (12, .aload_n 0, 1), (13, .getfield 29, 3), (16, .invokevirtual 142, 3), (19, .aload_n 0, 1), (20, .getfield 25, 3), (23, .invokevirtual 146, 3), (26, .aload_n 0, 1), (27, .getfield 29, 3), (30, .invokevirtual 146, 3), (33, .invokestatic 412, 3), (36, .aload_n 0, 1), (37, .getfield 12, 3), (40, .invokevirtual 133, 3), (43, .if_icmp .le 5, 3), (46, .iconst (-1), 1), (47, .ireturn, 1), (48, .aload_n 0, 1), (49, .getfield 44, 3), (52, .aload_n 0, 1), (53, .getfield 25, 3), (56, .aload_n 0, 1), (57, .getfield 29, 3), (60, .invokevirtual 201, 3), (63, .aload_n 0, 1), (64, .getfield 44, 3), (67, .iload_n 1, 1), (68, .iload_n 3, 1), (69, .invokevirtual 415, 3), (72, .ireturn, 1)]
theorem zX10_planRoute : (tX10_planRoute.all fun q => decide (decode cX10_planRoute q.1 = .ok q.2)) = true := by decide +kernel
def tX10_shortest : List (Nat × Instr × Nat) := [(0, .iload_n 1, 1), (1, .iload_n 2, 1), (2, .iload_n 3, 1), (3, .iload 4, 2), (5, .invokestatic 170, 3), (8, .ifCond .eq 14, 3), (11, .iload 5, 2), (13, .ifCond .lt 9, 3), (16, .iload 5, 2), (18, .iconst 1, 1), (19, .if_icmp .le 9, 3), (22, .bipush (-2), 2), (24, .invokestatic 174, 3), (27, .lreturn, 1), (28, .aload_n 0, 1), (29, .iload_n 1, 1), (30, .iload_n 2, 1), (31, .iload_n 3, 1), (32, .iload 4, 2), (34, .invokevirtual 178, 3), (37, .istore 6, 2), (39, .iload 5, 2), (41, .ifCond .ne 7, 3), (44, .iload 6, 2), (46, .i2l, 1), (47, .lreturn, 1), (48, .iload 6, 2), (50, .iconst (-1), 1), (51, .if_icmp .ne 7, 3), (54, .lconst 0, 1), (55, .goto 12, 3), (58, .aload_n 0, 1), (59, .getfield 44, 3), (62, .iload_n 1, 1), (63, .iload_n 3, 1), (64, .invokevirtual 182, 3), (67, .lreturn, 1)]
theorem zX10_shortest : (tX10_shortest.all fun q => decide (decode cX10_shortest q.1 = .ok q.2)) = true := by decide +kernel
def tX10_letter : List (Nat × Instr × Nat) := [(0, .iload_n 1, 1), (1, .iload_n 2, 1), (2, .iload_n 3, 1), (3, .iload 4, 2), (5, .invokestatic 170, 3), (8, .ifCond .eq 8, 3), (11, .iload 5, 2), (13, .ifCond .ge 6, 3), (16, .bipush (-2), 2), (18, .ireturn, 1), (19, .aload_n 0, 1), (20, .iload_n 1, 1), (21, .iload_n 2, 1), (22, .iload_n 3, 1), (23, .iload 4, 2), (25, .invokevirtual 178, 3), (28, .istore 6, 2), (30, .iload 5, 2), (32, .iload 6, 2), (34, .if_icmp .ge 20, 3), (37, .aload_n 0, 1), (38, .getfield 44, 3), (41, .iload_n 1, 1), (42, .iload_n 3, 1), (43, .iload 5, 2), (45, .invokevirtual 186, 3), (48, .invokestatic 150, 3), (51, .goto 4, 3), (54, .iconst (-1), 1), (55, .ireturn, 1)]
theorem zX10_letter : (tX10_letter.all fun q => decide (decode cX10_letter q.1 = .ok q.2)) = true := by decide +kernel
def tX10_errands : List (Nat × Instr × Nat) := [(0, .iload_n 1, 1), (1, .invokestatic 153, 3), (4, .ifCond .eq 23, 3), (7, .iload_n 2, 1), (8, .ifCond .lt 19, 3), (11, .iload_n 2, 1), (12, .sipush 255, 3), (15, .if_icmp .gt 12, 3), (18, .iload_n 3, 1), (19, .ifCond .lt 8, 3), (22, .iload_n 3, 1), (23, .iconst 1, 1), (24, .if_icmp .le 6, 3), (27, .bipush (-2), 2), (29, .ireturn, 1), (30, .aload_n 0, 1), (31, .getfield 51, 3), (34, .iload_n 1, 1), (35, .iload_n 2, 1), (36, .invokevirtual 190, 3), (39, .istore 4, 2), (41, .iload_n 3, 1), (42, .ifCond .eq 9, 3), (45, .iload 4, 2), (47, .iconst (-1), 1), (48, .if_icmp .ne 8, 3), (51, .iload 4, 2), (53, .goto 13, 3), (56, .iconst 2, 1), (57, .aload_n 0, 1), (58, .getfield 51, 3), (61, .iload_n 2, 1), (62, .invokevirtual 194, 3), (65, .imul, 1), (66, .ireturn, 1)]
theorem zX10_errands : (tX10_errands.all fun q => decide (decode cX10_errands q.1 = .ok q.2)) = true := by decide +kernel
def tX10_clean : List (Nat × Instr × Nat) := [(0, .iload_n 1, 1), (1, .invokestatic 153, 3), (4, .ifCond .eq 14, 3), (7, .aload_n 0, 1), (8, .getfield 51, 3), (11, .iload_n 1, 1), (12, .invokevirtual 197, 3), (15, .goto 5, 3), (18, .bipush (-2), 2), (20, .ireturn, 1)]
theorem zX10_clean : (tX10_clean.all fun q => decide (decode cX10_clean q.1 = .ok q.2)) = true := by decide +kernel
def tX10_found : List (Nat × Instr × Nat) := [(0, .iload_n 1, 1), (1, .invokestatic 139, 3), (4, .ifCond .eq 12, 3), (7, .iload_n 2, 1), (8, .ifCond .lt 8, 3), (11, .iload_n 2, 1), (12, .iconst 1, 1), (13, .if_icmp .le 6, 3), (16, .bipush (-2), 2), (18, .ireturn, 1), (19, .aload_n 0, 1), (20, .getfield 25, 3), (23, .invokevirtual 200, 3), (26, .aload_n 0, 1), (27, .iload_n 1, 1), (28, .aload_n 0, 1), (29, .getfield 29, 3), (32, .invokevirtual 142, 3), (35, .aload_n 0, 1), (36, .getfield 44, 3), (39, .aload_n 0, 1), (40, .getfield 25, 3), (43, .aload_n 0, 1), (44, .getfield 29, 3), (47, .invokevirtual 201, 3), (50, .iload_n 2, 1), (51, .ifCond .ne 13, 3), (54, .aload_n 0, 1), (55, .getfield 44, 3), (58, .invokevirtual 205, 3), (61, .goto 10, 3), (64, .aload_n 0, 1), (65, .getfield 44, 3), (68, .invokevirtual 208, 3), (71, .ireturn, 1)]
theorem zX10_found : (tX10_found.all fun q => decide (decode cX10_found q.1 = .ok q.2)) = true := by decide +kernel
def tX10_many : List (Nat × Instr × Nat) := [(0, .iload_n 1, 1), (1, .invokestatic 153, 3), (4, .ifCond .eq 29, 3), (7, .iload_n 2, 1), (8, .invokestatic 139, 3), (11, .ifCond .eq 22, 3), (14, .iload_n 3, 1), (15, .invokestatic 153, 3), (18, .ifCond .eq 15, 3), (21, .iload 4, 2), (23, .ifCond .lt 10, 3), (26, .iload 4, 2), (28, .bipush 12, 2), (30, .if_icmp .le 9, 3), (33, .bipush (-2), 2), (35, .invokestatic 174, 3), (38, .lreturn, 1), (39, .aload_n 0, 1), (40, .iload_n 2, 1), (41, .aload_n 0, 1), (42, .getfield 25, 3), (45, .invokevirtual 142, 3), (48, .aload_n 0, 1), (49, .getfield 58, 3), (52, .iload_n 1, 1), (53, .aload_n 0, 1), (54, .getfield 25, 3), (57, .iload_n 3, 1), (58, .iload 4, 2), (60, .invokevirtual 211, 3), (63, .lreturn, 1)]
theorem zX10_many : (tX10_many.all fun q => decide (decode cX10_many q.1 = .ok q.2)) = true := by decide +kernel
def tX10_list : List (Nat × Instr × Nat) := [(0, .iload_n 1, 1), (1, .invokestatic 139, 3), (4, .ifCond .eq 12, 3), (7, .iload_n 2, 1), (8, .ifCond .lt 8, 3), (11, .iload_n 2, 1), (12, .iconst 1, 1), (13, .if_icmp .le 6, 3), (16, .bipush (-2), 2), (18, .ireturn, 1), (19, .aload_n 0, 1), (20, .getfield 65, 3), (23, .invokevirtual 215, 3), (26, .ifCond .eq 6, 3), (29, .bipush (-4), 2), (31, .ireturn, 1), (32, .aload_n 0, 1), (33, .iload_n 1, 1), (34, .aload_n 0, 1), (35, .getfield 25, 3), (38, .invokevirtual 142, 3), (41, .aload_n 0, 1), (42, .getfield 65, 3), (45, .aload_n 0, 1), (46, .getfield 25, 3), (49, .iload_n 2, 1), (50, .invokevirtual 216, 3), (53, .aload_n 0, 1), (54, .getfield 65, 3), (57, .invokevirtual 219, 3), (60, .ireturn, 1)]
theorem zX10_list : (tX10_list.all fun q => decide (decode cX10_list q.1 = .ok q.2)) = true := by decide +kernel
def tX10_isSheet : List (Nat × Instr × Nat) := [(0, .iload_n 0, 1), (1, .ifCond .lt 12, 3), (4, .iload_n 0, 1), (5, .iconst 4, 1), (6, .if_icmp .ge 7, 3), (9, .iconst 1, 1), (10, .goto 4, 3), (13, .iconst 0, 1), (14, .ireturn, 1)]
theorem zX10_isSheet : (tX10_isSheet.all fun q => decide (decode cX10_isSheet q.1 = .ok q.2)) = true := by decide +kernel
def tX10_listIfRoom : List (Nat × Instr × Nat) := [(0, .aload_n 0, 1), (1, .getfield 65, 3), (4, .invokevirtual 215, 3), (7, .ifCond .ne 12, 3), (10, .aload_n 0, 1), (11, .getfield 65, 3), (14, .aload_n 1, 1), (15, .iconst 1, 1), (16, .invokevirtual 216, 3), (19, .return_, 1)]
theorem zX10_listIfRoom : (tX10_listIfRoom.all fun q => decide (decode cX10_listIfRoom q.1 = .ok q.2)) = true := by decide +kernel
def tX10_read : List (Nat × Instr × Nat) := [(0, .iload_n 1, 1), (1, .invokestatic 220, 3), (4, .ifCond .ne 6, 3), (7, .bipush (-2), 2), (9, .ireturn, 1), (10, .aload_n 0, 1), (11, .getfield 82, 3), (14, .iload_n 1, 1), (15, .invokevirtual 223, 3), (18, .ifCond .eq 12, 3), (21, .aload_n 0, 1), (22, .getfield 82, 3), (25, .iconst 1, 1), (26, .invokevirtual 226, 3), (29, .ireturn, 1), (30, .aload_n 0, 1), (31, .getfield 65, 3), (34, .invokevirtual 219, 3), (37, .istore_n 2, 1), (38, .aload_n 0, 1), (39, .getfield 25, 3), (42, .invokevirtual 200, 3), (45, .iconst 0, 1), (46, .istore_n 3, 1), (47, .iload_n 3, 1), (48, .aload_n 0, 1), (49, .getfield 82, 3), (52, .iload_n 1, 1), (53, .invokevirtual 229, 3), (56, .if_icmp .gt 88, 3), (59, .iload_n 3, 1), (60, .aload_n 0, 1), (61, .getfield 82, 3), (64, .iload_n 1, 1), (65, .invokevirtual 229, 3), (68, .if_icmp .ge 22, 3), (71, .aload_n 0, 1), (72, .getfield 12, 3), (75, .aload_n 0, 1), (76, .getfield 82, 3), (79, .iload_n 1, 1), (80, .iload_n 3, 1), (81, .invokevirtual 231, 3), (84, .invokevirtual 234, 3), (87, .goto 4, 3), (90, .iconst (-1), 1), (91, .istore 4, 2), (93, .iload 4, 2), (95, .iconst (-1), 1), (96, .if_icmp .ne 21, 3), (99, .aload_n 0, 1), (100, .aload_n 0, 1), (101, .getfield 25, 3), (104, .invokevirtual 237, 3), (107, .aload_n 0, 1), (108, .getfield 25, 3), (111, .invokevirtual 200, 3), (114, .goto 24, 3), (117, .aload_n 0, 1), (118, .getfield 12, 3), (121, .iload 4, 2), (123, .invokevirtual 127, 3), (126, .ifCond .eq 12, 3), (129, .aload_n 0, 1), (130, .getfield 25, 3), (133, .iload 4, 2), (135, .invokevirtual 241, 3), (138, .iinc 3 1, 3), (141, .goto (-94), 3), (144, .aload_n 0, 1), (145, .getfield 65, 3), (148, .invokevirtual 219, 3), (151, .iload_n 2, 1), (152, .isub, 1), (153, .ireturn, 1)]
theorem zX10_read : (tX10_read.all fun q => decide (decode cX10_read q.1 = .ok q.2)) = true := by decide +kernel
def tX10_unlist : List (Nat × Instr × Nat) := [(0, .aload_n 0, 1), (1, .getfield 65, 3), (4, .invokevirtual 219, 3), (7, .ifCond .ne 6, 3), (10, .bipush (-3), 2), (12, .ireturn, 1), (13, .aload_n 0, 1), (14, .getfield 65, 3), (17, .invokevirtual 244, 3), (20, .aload_n 0, 1), (21, .getfield 65, 3), (24, .invokevirtual 219, 3), (27, .ireturn, 1)]
theorem zX10_unlist : (tX10_unlist.all fun q => decide (decode cX10_unlist q.1 = .ok q.2)) = true := by decide +kernel
def tX10_listed : List (Nat × Instr × Nat) := [(0, .iload_n 1, 1), (1, .ifCond .lt 25, 3), (4, .iload_n 1, 1), (5, .aload_n 0, 1), (6, .getfield 65, 3), (9, .invokevirtual 219, 3), (12, .if_icmp .ge 14, 3), (15, .iload_n 2, 1), (16, .iconst (-1), 1), (17, .if_icmp .lt 9, 3), (20, .iload_n 2, 1), (21, .bipush 11, 2), (23, .if_icmp .lt 6, 3), (26, .bipush (-2), 2), (28, .ireturn, 1), (29, .iload_n 2, 1), (30, .iconst (-1), 1), (31, .if_icmp .ne 14, 3), (34, .aload_n 0, 1), (35, .getfield 65, 3), (38, .iload_n 1, 1), (39, .invokevirtual 247, 3), (42, .goto 15, 3), (45, .aload_n 0, 1), (46, .getfield 65, 3), (49, .iload_n 1, 1), (50, .iload_n 2, 1), (51, .invokevirtual 250, 3), (54, .invokestatic 150, 3), (57, .ireturn, 1)]
theorem zX10_listed : (tX10_listed.all fun q => decide (decode cX10_listed q.1 = .ok q.2)) = true := by decide +kernel
def tX10_arePlaces : List (Nat × Instr × Nat) := [(0, .iload_n 0, 1), (1, .ifCond .lt 14, 3), (4, .iload_n 0, 1), (5, .sipush 2047, 3), (8, .if_icmp .gt 7, 3), (11, .iconst 1, 1), (12, .goto 4, 3), (15, .iconst 0, 1), (16, .ireturn, 1)]
theorem zX10_arePlaces : (tX10_arePlaces.all fun q => decide (decode cX10_arePlaces q.1 = .ok q.2)) = true := by decide +kernel
def tX10_lets : List (Nat × Instr × Nat) := [(0, .iload_n 1, 1), (1, .invokestatic 139, 3), (4, .ifCond .eq 10, 3), (7, .iload_n 2, 1), (8, .invokestatic 253, 3), (11, .ifCond .ne 6, 3), (14, .bipush (-2), 2), (16, .ireturn, 1), (17, .aload_n 0, 1), (18, .iload_n 1, 1), (19, .aload_n 0, 1), (20, .getfield 25, 3), (23, .invokevirtual 142, 3), (26, .aload_n 0, 1), (27, .getfield 65, 3), (30, .aload_n 0, 1), (31, .getfield 25, 3), (34, .iload_n 2, 1), (35, .invokevirtual 256, 3), (38, .ifCond .eq 7, 3), (41, .iconst 1, 1), (42, .goto 4, 3), (45, .iconst 0, 1), (46, .ireturn, 1)]
theorem zX10_lets : (tX10_lets.all fun q => decide (decode cX10_lets q.1 = .ok q.2)) = true := by decide +kernel
def tX10_slips : List (Nat × Instr × Nat) := [(0, .iload_n 1, 1), (1, .invokestatic 253, 3), (4, .ifCond .eq 14, 3), (7, .aload_n 0, 1), (8, .getfield 65, 3), (11, .iload_n 1, 1), (12, .invokevirtual 260, 3), (15, .goto 5, 3), (18, .bipush (-2), 2), (20, .ireturn, 1)]
theorem zX10_slips : (tX10_slips.all fun q => decide (decode cX10_slips q.1 = .ok q.2)) = true := by decide +kernel
def tX10_fewest : List (Nat × Instr × Nat) := [(0, .aload_n 0, 1), (1, .getfield 65, 3), (4, .invokevirtual 263, 3), (7, .ireturn, 1)]
theorem zX10_fewest : (tX10_fewest.all fun q => decide (decode cX10_fewest q.1 = .ok q.2)) = true := by decide +kernel
def tX10_far : List (Nat × Instr × Nat) := [(0, .iload_n 1, 1), (1, .invokestatic 153, 3), (4, .ifCond .eq 10, 3), (7, .iload_n 2, 1), (8, .invokestatic 153, 3), (11, .ifCond .ne 6, 3), (14, .bipush (-2), 2), (16, .ireturn, 1), (17, .aload_n 0, 1), (18, .getfield 72, 3), (21, .aload_n 0, 1), (22, .getfield 12, 3), (25, .aload_n 0, 1), (26, .getfield 12, 3), (29, .invokevirtual 266, 3), (32, .iload_n 1, 1), (33, .invokevirtual 269, 3), (36, .aload_n 0, 1), (37, .getfield 72, 3), (40, .iload_n 1, 1), (41, .iload_n 2, 1), (42, .invokevirtual 273, 3), (45, .ireturn, 1)]
theorem zX10_far : (tX10_far.all fun q => decide (decode cX10_far q.1 = .ok q.2)) = true := by decide +kernel
def tX10_without : List (Nat × Instr × Nat) := [(0, .aload_n 0, 1), (1, .getfield 12, 3), (4, .iload_n 1, 1), (5, .invokevirtual 117, 3), (8, .ifCond .eq 12, 3), (11, .iload_n 2, 1), (12, .ifCond .lt 8, 3), (15, .iload_n 2, 1), (16, .iconst 1, 1), (17, .if_icmp .le 6, 3), (20, .bipush (-2), 2), (22, .ireturn, 1), (23, .aload_n 0, 1), (24, .getfield 12, 3), (27, .invokevirtual 266, 3), (30, .istore_n 3, 1), (31, .iload_n 3, 1), (32, .iconst 1, 1), (33, .iload_n 1, 1), (34, .ishl, 1), (35, .iconst (-1), 1), (36, .ixor, 1), (37, .iand, 1), (38, .istore 4, 2), (40, .iload 4, 2), (42, .iload_n 3, 1), (43, .if_icmp .ne 5, 3), (46, .iconst 0, 1), (47, .ireturn, 1), (48, .aload_n 0, 1), (49, .getfield 72, 3), (52, .aload_n 0, 1), (53, .getfield 12, 3), (56, .iload_n 3, 1), (57, .invokevirtual 276, 3), (60, .aload_n 0, 1), (61, .getfield 76, 3), (64, .aload_n 0, 1), (65, .getfield 12, 3), (68, .iload 4, 2), (70, .invokevirtual 276, 3), (73, .iload_n 2, 1), (74, .ifCond .ne 17, 3), (77, .aload_n 0, 1), (78, .getfield 72, 3), (81, .aload_n 0, 1), (82, .getfield 76, 3), (85, .invokevirtual 280, 3), (88, .goto 14, 3), (91, .aload_n 0, 1), (92, .getfield 72, 3), (95, .aload_n 0, 1), (96, .getfield 76, 3), (99, .invokevirtual 284, 3), (102, .ireturn, 1)]
theorem zX10_without : (tX10_without.all fun q => decide (decode cX10_without q.1 = .ok q.2)) = true := by decide +kernel
def tX10_with : List (Nat × Instr × Nat) := [(0, .iload_n 1, 1), (1, .invokestatic 153, 3), (4, .ifCond .eq 19, 3), (7, .iload_n 2, 1), (8, .invokestatic 153, 3), (11, .ifCond .eq 12, 3), (14, .iload_n 3, 1), (15, .ifCond .lt 8, 3), (18, .iload_n 3, 1), (19, .iconst 1, 1), (20, .if_icmp .le 6, 3), (23, .bipush (-2), 2), (25, .ireturn, 1), (26, .aload_n 0, 1), (27, .getfield 72, 3), (30, .aload_n 0, 1), (31, .getfield 12, 3), (34, .aload_n 0, 1), (35, .getfield 12, 3), (38, .invokevirtual 266, 3), (41, .invokevirtual 276, 3), (44, .aload_n 0, 1), (45, .getfield 76, 3), (48, .aload_n 0, 1), (49, .getfield 12, 3), (52, .aload_n 0, 1), (53, .getfield 12, 3), (56, .invokevirtual 266, 3), (59, .iload_n 1, 1), (60, .iload_n 2, 1), (61, .invokevirtual 287, 3), (64, .iload_n 3, 1), (65, .ifCond .ne 17, 3), (68, .aload_n 0, 1), (69, .getfield 72, 3), (72, .aload_n 0, 1), (73, .getfield 76, 3), (76, .invokevirtual 280, 3), (79, .goto 14, 3), (82, .aload_n 0, 1), (83, .getfield 72, 3), (86, .aload_n 0, 1), (87, .getfield 76, 3), (90, .invokevirtual 284, 3), (93, .ireturn, 1)]
theorem zX10_with : (tX10_with.all fun q => decide (decode cX10_with q.1 = .ok q.2)) = true := by decide +kernel
def tX10_isForm : List (Nat × Instr × Nat) := [(0, .iload_n 0, 1), (1, .ifCond .lt 12, 3), (4, .iload_n 0, 1), (5, .iconst 3, 1), (6, .if_icmp .ge 7, 3), (9, .iconst 1, 1), (10, .goto 4, 3), (13, .iconst 0, 1), (14, .ireturn, 1)]
theorem zX10_isForm : (tX10_isForm.all fun q => decide (decode cX10_isForm q.1 = .ok q.2)) = true := by decide +kernel
def tX10_sheet : List (Nat × Instr × Nat) := [(0, .iload_n 1, 1), (1, .invokestatic 220, 3), (4, .ifCond .eq 16, 3), (7, .iload_n 2, 1), (8, .invokestatic 291, 3), (11, .ifCond .eq 9, 3), (14, .iload_n 3, 1), (15, .bipush 60, 2), (17, .if_icmp .le 6, 3), (20, .bipush (-2), 2), (22, .ireturn, 1), (23, .iload_n 3, 1), (24, .ifCond .ge 12, 3), (27, .aload_n 0, 1), (28, .getfield 82, 3), (31, .iconst 5, 1), (32, .invokevirtual 226, 3), (35, .ireturn, 1), (36, .aload_n 0, 1), (37, .getfield 82, 3), (40, .iload_n 1, 1), (41, .iload_n 2, 1), (42, .iload_n 3, 1), (43, .invokevirtual 294, 3), (46, .iload_n 3, 1), (47, .ireturn, 1)]
theorem zX10_sheet : (tX10_sheet.all fun q => decide (decode cX10_sheet q.1 = .ok q.2)) = true := by decide +kernel
def tX10_lose : List (Nat × Instr × Nat) := [(0, .iload_n 1, 1), (1, .invokestatic 220, 3), (4, .ifCond .ne 6, 3), (7, .bipush (-2), 2), (9, .ireturn, 1), (10, .aload_n 0, 1), (11, .getfield 82, 3), (14, .iload_n 1, 1), (15, .invokevirtual 223, 3), (18, .ifCond .eq 12, 3), (21, .aload_n 0, 1), (22, .getfield 82, 3), (25, .iconst 1, 1), (26, .invokevirtual 226, 3), (29, .ireturn, 1), (30, .aload_n 0, 1), (31, .getfield 82, 3), (34, .iload_n 1, 1), (35, .invokevirtual 229, 3), (38, .istore_n 2, 1), (39, .aload_n 0, 1), (40, .getfield 82, 3), (43, .iload_n 1, 1), (44, .invokevirtual 297, 3), (47, .iload_n 2, 1), (48, .ireturn, 1)]
theorem zX10_lose : (tX10_lose.all fun q => decide (decode cX10_lose q.1 = .ok q.2)) = true := by decide +kernel
def tX10_lay : List (Nat × Instr × Nat) := [(0, .iload_n 1, 1), (1, .invokestatic 220, 3), (4, .ifCond .eq 10, 3), (7, .iload_n 2, 1), (8, .invokestatic 291, 3), (11, .ifCond .ne 6, 3), (14, .bipush (-2), 2), (16, .ireturn, 1), (17, .aload_n 0, 1), (18, .getfield 82, 3), (21, .iload_n 1, 1), (22, .iload_n 2, 1), (23, .iload_n 3, 1), (24, .invokevirtual 300, 3), (27, .istore 5, 2), (29, .iload 5, 2), (31, .ifCond .eq 13, 3), (34, .aload_n 0, 1), (35, .getfield 82, 3), (38, .iload 5, 2), (40, .invokevirtual 226, 3), (43, .ireturn, 1), (44, .aload_n 0, 1), (45, .getfield 82, 3), (48, .iload_n 1, 1), (49, .iload_n 3, 1), (50, .iload 4, 2), (52, .invokevirtual 303, 3), (55, .iconst 1, 1), (56, .ireturn, 1)]
theorem zX10_lay : (tX10_lay.all fun q => decide (decode cX10_lay q.1 = .ok q.2)) = true := by decide +kernel
def tX10_get : List (Nat × Instr × Nat) := [(0, .iload_n 1, 1), (1, .invokestatic 220, 3), (4, .ifCond .eq 10, 3), (7, .iload_n 2, 1), (8, .invokestatic 291, 3), (11, .ifCond .ne 7, 3), (14, .ldc_w 306, 3), (17, .ireturn, 1), (18, .aload_n 0, 1), (19, .getfield 82, 3), (22, .iload_n 1, 1), (23, .iload_n 2, 1), (24, .iload_n 3, 1), (25, .invokevirtual 300, 3), (28, .istore 4, 2), (30, .iload 4, 2), (32, .ifCond .eq 17, 3), (35, .aload_n 0, 1), (36, .getfield 82, 3), (39, .iload 4, 2), (41, .invokevirtual 226, 3), (44, .pop, 1), (45, .ldc_w 306, 3), (48, .ireturn, 1), (49, .aload_n 0, 1), (50, .getfield 82, 3), (53, .iload_n 1, 1), (54, .iload_n 3, 1), (55, .invokevirtual 231, 3), (58, .ireturn, 1)]
theorem zX10_get : (tX10_get.all fun q => decide (decode cX10_get q.1 = .ok q.2)) = true := by decide +kernel
def tX10_copy : List (Nat × Instr × Nat) := [(0, .iload_n 1, 1), (1, .invokestatic 220, 3), (4, .ifCond .eq 10, 3), (7, .iload_n 3, 1), (8, .invokestatic 220, 3), (11, .ifCond .ne 6, 3), (14, .bipush (-2), 2), (16, .ireturn, 1), (17, .aload_n 0, 1), (18, .getfield 82, 3), (21, .iload_n 1, 1), (22, .iload_n 2, 1), (23, .iload_n 3, 1), (24, .iload 4, 2), (26, .iload 5, 2), (28, .invokevirtual 307, 3), (31, .istore 6, 2), (33, .iload 6, 2), (35, .ifCond .eq 13, 3), (38, .aload_n 0, 1), (39, .getfield 82, 3), (42, .iload 6, 2), (44, .invokevirtual 226, 3), (47, .ireturn, 1), (48, .aload_n 0, 1), (49, .getfield 82, 3), (52, .iload_n 1, 1), (53, .iload_n 2, 1), (54, .iload_n 3, 1), (55, .iload 4, 2), (57, .iload 5, 2), (59, .invokevirtual 311, 3), (62, .iconst 1, 1), (63, .ireturn, 1)]
theorem zX10_copy : (tX10_copy.all fun q => decide (decode cX10_copy q.1 = .ok q.2)) = true := by decide +kernel
def tX10_write : List (Nat × Instr × Nat) := [(0, .iload_n 1, 1), (1, .invokestatic 139, 3), (4, .ifCond .eq 10, 3), (7, .iload_n 2, 1), (8, .invokestatic 220, 3), (11, .ifCond .ne 6, 3), (14, .bipush (-2), 2), (16, .ireturn, 1), (17, .aload_n 0, 1), (18, .getfield 82, 3), (21, .iload_n 2, 1), (22, .invokevirtual 223, 3), (25, .ifCond .eq 12, 3), (28, .aload_n 0, 1), (29, .getfield 82, 3), (32, .iconst 1, 1), (33, .invokevirtual 226, 3), (36, .ireturn, 1), (37, .aload_n 0, 1), (38, .iload_n 1, 1), (39, .aload_n 0, 1), (40, .getfield 25, 3), (43, .invokevirtual 142, 3), (46, .aload_n 0, 1), (47, .getfield 25, 3), (50, .invokevirtual 146, 3), (53, .aload_n 0, 1), (54, .getfield 82, 3), (57, .iload_n 2, 1), (58, .invokevirtual 229, 3), (61, .invokestatic 315, 3), (64, .istore_n 3, 1), (65, .iconst 0, 1), (66, .istore 4, 2), (68, .iload 4, 2), (70, .iload_n 3, 1), (71, .if_icmp .ge 31, 3), (74, .aload_n 0, 1), (75, .getfield 82, 3), (78, .iload_n 2, 1), (79, .iload 4, 2), (81, .aload_n 0, 1), (82, .getfield 25, 3), (85, .iload 4, 2), (87, .invokevirtual 147, 3), (90, .invokestatic 150, 3), (93, .invokevirtual 303, 3), (96, .iinc 4 1, 3), (99, .goto (-31), 3), (102, .iload_n 3, 1), (103, .ireturn, 1)]
theorem zX10_write : (tX10_write.all fun q => decide (decode cX10_write q.1 = .ok q.2)) = true := by decide +kernel
def tX10_count : List (Nat × Instr × Nat) := [(0, .iload_n 1, 1), (1, .ifCond .lt 9, 3), (4, .iload_n 1, 1), (5, .bipush 8, 2), (7, .if_icmp .le 6, 3), (10, .bipush (-2), 2), (12, .ireturn, 1), (13, .iload_n 1, 1), (14, .tableswitch 90 0 8 #[50, 58, 90, 90, 90, 90, 66, 74, 82], 50), (64, .aload_n 0, 1), (65, .getfield 12, 3), (68, .invokevirtual 320, 3), (71, .ireturn, 1), (72, .aload_n 0, 1), (73, .getfield 12, 3), (76, .invokevirtual 323, 3), (79, .ireturn, 1), (80, .aload_n 0, 1), (81, .getfield 65, 3), (84, .invokevirtual 219, 3), (87, .ireturn, 1), (88, .aload_n 0, 1), (89, .getfield 65, 3), (92, .invokevirtual 326, 3), (95, .ireturn, 1), (96, .aload_n 0, 1), (97, .getfield 82, 3), (100, .invokevirtual 329, 3), (103, .ireturn, 1), (104, .aload_n 0, 1), (105, .getfield 18, 3), (108, .iload_n 1, 1), (109, .iconst 2, 1), (110, .isub, 1), (111, .aaload, 1), (112, .invokevirtual 103, 3), (115, .ireturn, 1)]
theorem zX10_count : (tX10_count.all fun q => decide (decode cX10_count q.1 = .ok q.2)) = true := by decide +kernel
def tX10_digestGate : List (Nat × Instr × Nat) := [(0, .lload_n 1, 1), (1, .lstore 4, 2), (3, .iconst 0, 1), (4, .istore 6, 2), (6, .iload 6, 2), (8, .iconst 3, 1), (9, .if_icmp .gt 26, 3), (12, .ldc2_w 334, 3), (15, .lload 4, 2), (17, .lmul, 1), (18, .aload_n 0, 1), (19, .iload_n 3, 1), (20, .iload 6, 2), (22, .invokevirtual 364, 3), (25, .i2l, 1), (26, .ladd, 1), (27, .lstore 4, 2), (29, .iinc 6 1, 3), (32, .goto (-26), 3), (35, .ldc2_w 334, 3), (38, .lload 4, 2), (40, .lmul, 1), (41, .aload_n 0, 1), (42, .iload_n 3, 1), (43, .iconst 0, 1), (44, .invokevirtual 367, 3), (47, .i2l, 1), (48, .ladd, 1), (49, .lstore 4, 2), (51, .ldc2_w 334, 3), (54, .lload 4, 2), (56, .lmul, 1), (57, .aload_n 0, 1), (58, .iload_n 3, 1), (59, .iconst 1, 1), (60, .invokevirtual 367, 3), (63, .i2l, 1), (64, .ladd, 1), (65, .lreturn, 1)]
theorem zX10_digestGate : (tX10_digestGate.all fun q => decide (decode cX10_digestGate q.1 = .ok q.2)) = true := by decide +kernel
def tX10_digestWay : List (Nat × Instr × Nat) := [(0, .aload_n 0, 1), (1, .iload_n 3, 1), (2, .iconst (-1), 1), (3, .invokevirtual 370, 3), (6, .istore 4, 2), (8, .ldc2_w 334, 3), (11, .lload_n 1, 1), (12, .lmul, 1), (13, .iload 4, 2), (15, .i2l, 1), (16, .ladd, 1), (17, .lstore 5, 2), (19, .iconst 0, 1), (20, .istore 7, 2), (22, .iload 7, 2), (24, .iload 4, 2), (26, .if_icmp .ge 26, 3), (29, .ldc2_w 334, 3), (32, .lload 5, 2), (34, .lmul, 1), (35, .aload_n 0, 1), (36, .iload_n 3, 1), (37, .iload 7, 2), (39, .invokevirtual 370, 3), (42, .i2l, 1), (43, .ladd, 1), (44, .lstore 5, 2), (46, .iinc 7 1, 3), (49, .goto (-27), 3), (52, .iconst 0, 1), (53, .istore 7, 2), (55, .iload 7, 2), (57, .iconst 4, 1), (58, .if_icmp .gt 28, 3), (61, .ldc2_w 334, 3), (64, .lload 5, 2), (66, .lmul, 1), (67, .aload_n 0, 1), (68, .iload_n 3, 1), (69, .iconst 0, 1), (70, .iconst 0, 1), (71, .iload 7, 2), (73, .invokevirtual 373, 3), (76, .i2l, 1), (77, .ladd, 1), (78, .lstore 5, 2), (80, .iinc 7 1, 3), (83, .goto (-28), 3), (86, .ldc2_w 334, 3), (89, .lload 5, 2), (91, .lmul, 1), (92, .aload_n 0, 1), (93, .iload_n 3, 1), (94, .iconst 0, 1), (95, .invokevirtual 376, 3), (98, .i2l, 1), (99, .ladd, 1), (100, .lstore 5, 2), (102, .ldc2_w 334, 3), (105, .lload 5, 2), (107, .lmul, 1), (108, .aload_n 0, 1), (109, .iload_n 3, 1), (110, .iconst 1, 1), (111, .invokevirtual 376, 3), (114, .i2l, 1), (115, .ladd, 1), (116, .lstore 5, 2), (118, .aload_n 0, 1), (119, .iload_n 3, 1), (120, .iconst 0, 1), (121, .iconst 0, 1), (122, .iconst 1, 1), (123, .invokevirtual 373, 3), (126, .istore 7, 2), (128, .ldc2_w 334, 3), (131, .lload 5, 2), (133, .lmul, 1), (134, .aload_n 0, 1), (135, .iconst 0, 1), (136, .iconst 0, 1), (137, .iload 7, 2), (139, .iload_n 3, 1), (140, .iconst 0, 1), (141, .invokevirtual 379, 3), (144, .ladd, 1), (145, .lstore 5, 2), (147, .ldc2_w 334, 3), (150, .lload 5, 2), (152, .lmul, 1), (153, .aload_n 0, 1), (154, .iconst 0, 1), (155, .iconst 0, 1), (156, .iload 7, 2), (158, .iload_n 3, 1), (159, .iconst 1, 1), (160, .invokevirtual 379, 3), (163, .ladd, 1), (164, .lstore 5, 2), (166, .ldc2_w 334, 3), (169, .lload 5, 2), (171, .lmul, 1), (172, .aload_n 0, 1), (173, .iconst 0, 1), (174, .iload_n 3, 1), (175, .iload 7, 2), (177, .bipush 6, 2), (179, .invokevirtual 383, 3), (182, .ladd, 1), (183, .lreturn, 1)]
theorem zX10_digestWay : (tX10_digestWay.all fun q => decide (decode cX10_digestWay q.1 = .ok q.2)) = true := by decide +kernel
def tX10_digestTown : List (Nat × Instr × Nat) := [(0, .ldc2_w 334, 3), (3, .lload_n 1, 1), (4, .lmul, 1), (5, .aload_n 0, 1), (6, .iload_n 3, 1), (7, .invokevirtual 387, 3), (10, .i2l, 1), (11, .ladd, 1), (12, .lstore 4, 2), (14, .ldc2_w 334, 3), (17, .lload 4, 2), (19, .lmul, 1), (20, .aload_n 0, 1), (21, .iconst 0, 1), (22, .iload_n 3, 1), (23, .invokevirtual 390, 3), (26, .i2l, 1), (27, .ladd, 1), (28, .lstore 4, 2), (30, .ldc2_w 334, 3), (33, .lload 4, 2), (35, .lmul, 1), (36, .aload_n 0, 1), (37, .iconst 0, 1), (38, .iconst 1, 1), (39, .iload_n 3, 1), (40, .ishl, 1), (41, .iconst 0, 1), (42, .invokevirtual 393, 3), (45, .i2l, 1), (46, .ladd, 1), (47, .lstore 4, 2), (49, .ldc2_w 334, 3), (52, .lload 4, 2), (54, .lmul, 1), (55, .aload_n 0, 1), (56, .iconst 0, 1), (57, .iconst 1, 1), (58, .iload_n 3, 1), (59, .ishl, 1), (60, .iconst 1, 1), (61, .invokevirtual 393, 3), (64, .i2l, 1), (65, .ladd, 1), (66, .lreturn, 1)]
theorem zX10_digestTown : (tX10_digestTown.all fun q => decide (decode cX10_digestTown q.1 = .ok q.2)) = true := by decide +kernel
def tX10_digest : List (Nat × Instr × Nat) := [(0, .ldc2_w 332, 3), (3, .lstore_n 1, 1), (4, .iconst 0, 1), (5, .istore_n 3, 1), (6, .iload_n 3, 1), (7, .bipush 7, 2), (9, .if_icmp .gt 22, 3), (12, .ldc2_w 334, 3), (15, .lload_n 1, 1), (16, .lmul, 1), (17, .aload_n 0, 1), (18, .iload_n 3, 1), (19, .invokevirtual 336, 3), (22, .i2l, 1), (23, .ladd, 1), (24, .lstore_n 1, 1), (25, .iinc 3 1, 3), (28, .goto (-22), 3), (31, .iconst 0, 1), (32, .istore_n 3, 1), (33, .iload_n 3, 1), (34, .iconst 4, 1), (35, .if_icmp .ge 22, 3), (38, .ldc2_w 334, 3), (41, .lload_n 1, 1), (42, .lmul, 1), (43, .aload_n 0, 1), (44, .iload_n 3, 1), (45, .invokevirtual 339, 3), (48, .i2l, 1), (49, .ladd, 1), (50, .lstore_n 1, 1), (51, .iinc 3 1, 3), (54, .goto (-21), 3), (57, .ldc2_w 334, 3), (60, .lload_n 1, 1), (61, .lmul, 1), (62, .aload_n 0, 1), (63, .invokevirtual 342, 3), (66, .i2l, 1), (67, .ladd, 1), (68, .lstore_n 1, 1), (69, .iconst 0, 1), (70, .istore_n 3, 1), (71, .iload_n 3, 1), (72, .aload_n 0, 1), (73, .getfield 12, 3), (76, .invokevirtual 320, 3), (79, .if_icmp .ge 16, 3), (82, .aload_n 0, 1), (83, .lload_n 1, 1), (84, .iload_n 3, 1), (85, .invokevirtual 345, 3), (88, .lstore_n 1, 1), (89, .iinc 3 1, 3), (92, .goto (-21), 3), (95, .iconst 1, 1), (96, .istore_n 3, 1), (97, .iload_n 3, 1), (98, .iconst 4, 1), (99, .if_icmp .ge 16, 3), (102, .aload_n 0, 1), (103, .lload_n 1, 1), (104, .iload_n 3, 1), (105, .invokevirtual 349, 3), (108, .lstore_n 1, 1), (109, .iinc 3 1, 3), (112, .goto (-15), 3), (115, .ldc2_w 334, 3), (118, .lload_n 1, 1), (119, .lmul, 1), (120, .aload_n 0, 1), (121, .iconst 1, 1), (122, .iconst 2, 1), (123, .invokevirtual 352, 3), (126, .i2l, 1), (127, .ladd, 1), (128, .lstore_n 1, 1), (129, .iconst 0, 1), (130, .istore_n 3, 1), (131, .iload_n 3, 1), (132, .bipush 8, 2), (134, .if_icmp .ge 16, 3), (137, .aload_n 0, 1), (138, .lload_n 1, 1), (139, .iload_n 3, 1), (140, .invokevirtual 355, 3), (143, .lstore_n 1, 1), (144, .iinc 3 1, 3), (147, .goto (-16), 3), (150, .ldc2_w 334, 3), (153, .lload_n 1, 1), (154, .lmul, 1), (155, .aload_n 0, 1), (156, .bipush 7, 2), (158, .invokevirtual 358, 3), (161, .i2l, 1), (162, .ladd, 1), (163, .lstore_n 1, 1), (164, .ldc2_w 334, 3), (167, .lload_n 1, 1), (168, .lmul, 1), (169, .aload_n 0, 1), (170, .invokevirtual 361, 3), (173, .i2l, 1), (174, .ladd, 1), (175, .lreturn, 1)]
theorem zX10_digest : (tX10_digest.all fun q => decide (decode cX10_digest q.1 = .ok q.2)) = true := by decide +kernel
def tX11_in : List (Nat × Instr × Nat) := [(0, .lload_n 0, 1), (1, .lload_n 2, 1), (2, .lcmp, 1), (3, .ifCond .lt 14, 3), (6, .lload_n 0, 1), (7, .lload 4, 2), (9, .lcmp, 1), (10, .ifCond .gt 7, 3), (13, .iconst 1, 1), (14, .goto 4, 3), (17, .iconst 0, 1), (18, .ireturn, 1)]
theorem zX11_in : (tX11_in.all fun q => decide (decode cX11_in q.1 = .ok q.2)) = true := by decide +kernel
def tX11_no : List (Nat × Instr × Nat) := [(0, .ldc2_w 84, 3), (3, .iload_n 0, 1), (4, .i2l, 1), (5, .lsub, 1), (6, .lreturn, 1)]
theorem zX11_no : (tX11_no.all fun q => decide (decode cX11_no q.1 = .ok q.2)) = true := by decide +kernel
def tX11_isTwo : List (Nat × Instr × Nat) := [(0, .iload_n 0, 1), (1, .i2l, 1), (2, .lconst 0, 1), (3, .lconst 1, 1), (4, .invokestatic 86, 3), (7, .ireturn, 1)]
theorem zX11_isTwo : (tX11_isTwo.all fun q => decide (decode cX11_isTwo q.1 = .ok q.2)) = true := by decide +kernel
def tX11_isTown : List (Nat × Instr × Nat) := [(0, .iload_n 0, 1), (1, .i2l, 1), (2, .lconst 0, 1), (3, .ldc2_w 90, 3), (6, .invokestatic 86, 3), (9, .ireturn, 1)]
theorem zX11_isTown : (tX11_isTown.all fun q => decide (decode cX11_isTown q.1 = .ok q.2)) = true := by decide +kernel
def tX11_met : List (Nat × Instr × Nat) := [(0, .aload_n 0, 1), (1, .iload_n 1, 1), (2, .putfield 92, 3), (5, .bipush (-10), 2), (7, .iload_n 1, 1), (8, .isub, 1), (9, .ireturn, 1)]
theorem zX11_met : (tX11_met.all fun q => decide (decode cX11_met q.1 = .ok q.2)) = true := by decide +kernel
def tX11_isSheet : List (Nat × Instr × Nat) := [(0, .iload_n 0, 1), (1, .i2l, 1), (2, .lconst 0, 1), (3, .ldc2_w 96, 3), (6, .invokestatic 86, 3), (9, .ireturn, 1)]
theorem zX11_isSheet : (tX11_isSheet.all fun q => decide (decode cX11_isSheet q.1 = .ok q.2)) = true := by decide +kernel
def tX11_sheet : List (Nat × Instr × Nat) := [(0, .iload_n 1, 1), (1, .invokestatic 98, 3), (4, .ifCond .eq 21, 3), (7, .iload_n 2, 1), (8, .i2l, 1), (9, .lconst 0, 1), (10, .ldc2_w 102, 3), (13, .invokestatic 86, 3), (16, .ifCond .eq 9, 3), (19, .iload_n 3, 1), (20, .bipush 60, 2), (22, .if_icmp .le 6, 3), (25, .bipush (-2), 2), (27, .ireturn, 1), (28, .iload_n 3, 1), (29, .ifCond .ge 9, 3), (32, .aload_n 0, 1), (33, .iconst 5, 1), (34, .invokevirtual 104, 3), (37, .ireturn, 1), (38, .aload_n 0, 1), (39, .getfield 7, 3), (42, .iload_n 1, 1), (43, .iload_n 2, 1), (44, .iastore, 1), (45, .aload_n 0, 1), (46, .getfield 13, 3), (49, .iload_n 1, 1), (50, .iload_n 3, 1), (51, .iastore, 1), (52, .iconst 0, 1), (53, .istore 4, 2), (55, .iload 4, 2), (57, .iload_n 3, 1), (58, .if_icmp .ge 22, 3), (61, .aload_n 0, 1), (62, .getfield 16, 3), (65, .bipush 60, 2), (67, .iload_n 1, 1), (68, .imul, 1), (69, .iload 4, 2), (71, .iadd, 1), (72, .iconst 0, 1), (73, .iastore, 1), (74, .iinc 4 1, 3), (77, .goto (-22), 3), (80, .iload_n 3, 1), (81, .ireturn, 1)]
theorem zX11_sheet : (tX11_sheet.all fun q => decide (decode cX11_sheet q.1 = .ok q.2)) = true := by decide +kernel
def tX11_lose : List (Nat × Instr × Nat) := [(0, .iload_n 1, 1), (1, .invokestatic 98, 3), (4, .ifCond .ne 6, 3), (7, .bipush (-2), 2), (9, .ireturn, 1), (10, .aload_n 0, 1), (11, .getfield 7, 3), (14, .iload_n 1, 1), (15, .iaload, 1), (16, .ifCond .ge 9, 3), (19, .aload_n 0, 1), (20, .iconst 1, 1), (21, .invokevirtual 104, 3), (24, .ireturn, 1), (25, .aload_n 0, 1), (26, .getfield 7, 3), (29, .iload_n 1, 1), (30, .iconst (-1), 1), (31, .iastore, 1), (32, .aload_n 0, 1), (33, .getfield 13, 3), (36, .iload_n 1, 1), (37, .iaload, 1), (38, .ireturn, 1)]
theorem zX11_lose : (tX11_lose.all fun q => decide (decode cX11_lose q.1 = .ok q.2)) = true := by decide +kernel
def tX11_lacks : List (Nat × Instr × Nat) := [(0, .aload_n 0, 1), (1, .getfield 7, 3), (4, .iload_n 1, 1), (5, .iaload, 1), (6, .ifCond .ge 9, 3), (9, .aload_n 0, 1), (10, .iconst 1, 1), (11, .invokevirtual 104, 3), (14, .ireturn, 1), (15, .aload_n 0, 1), (16, .getfield 7, 3), (19, .iload_n 1, 1), (20, .iaload, 1), (21, .iload_n 2, 1), (22, .if_icmp .eq 9, 3), (25, .aload_n 0, 1), (26, .iconst 3, 1), (27, .invokevirtual 104, 3), (30, .ireturn, 1), (31, .iload_n 3, 1), (32, .i2l, 1), (33, .lconst 0, 1), (34, .aload_n 0, 1), (35, .getfield 13, 3), (38, .iload_n 1, 1), (39, .iaload, 1), (40, .iconst 1, 1), (41, .isub, 1), (42, .i2l, 1), (43, .invokestatic 86, 3), (46, .ifCond .eq 7, 3), (49, .iconst 0, 1), (50, .goto 8, 3), (53, .aload_n 0, 1), (54, .iconst 2, 1), (55, .invokevirtual 104, 3), (58, .ireturn, 1)]
theorem zX11_lacks : (tX11_lacks.all fun q => decide (decode cX11_lacks q.1 = .ok q.2)) = true := by decide +kernel
def tX11_cut : List (Nat × Instr × Nat) := [(0, .iload_n 0, 1), (1, .ifCond .ne 8, 3), (4, .iload_n 1, 1), (5, .i2b, 1), (6, .goto 14, 3), (9, .iload_n 0, 1), (10, .iconst 1, 1), (11, .if_icmp .ne 8, 3), (14, .iload_n 1, 1), (15, .i2s, 1), (16, .goto 4, 3), (19, .iload_n 1, 1), (20, .ireturn, 1)]
theorem zX11_cut : (tX11_cut.all fun q => decide (decode cX11_cut q.1 = .ok q.2)) = true := by decide +kernel
def tX11_lay : List (Nat × Instr × Nat) := [(0, .iload_n 1, 1), (1, .invokestatic 98, 3), (4, .ifCond .eq 15, 3), (7, .iload_n 2, 1), (8, .i2l, 1), (9, .lconst 0, 1), (10, .ldc2_w 102, 3), (13, .invokestatic 86, 3), (16, .ifCond .ne 6, 3), (19, .bipush (-2), 2), (21, .ireturn, 1), (22, .aload_n 0, 1), (23, .iload_n 1, 1), (24, .iload_n 2, 1), (25, .iload_n 3, 1), (26, .invokevirtual 108, 3), (29, .istore 5, 2), (31, .iload 5, 2), (33, .ifCond .eq 6, 3), (36, .iload 5, 2), (38, .ireturn, 1), (39, .aload_n 0, 1), (40, .getfield 16, 3), (43, .bipush 60, 2), (45, .iload_n 1, 1), (46, .imul, 1), (47, .iload_n 3, 1), (48, .iadd, 1), (49, .iload_n 2, 1), (50, .iload 4, 2), (52, .invokestatic 112, 3), (55, .iastore, 1), (56, .iconst 1, 1), (57, .ireturn, 1)]
theorem zX11_lay : (tX11_lay.all fun q => decide (decode cX11_lay q.1 = .ok q.2)) = true := by decide +kernel
def tX11_get : List (Nat × Instr × Nat) := [(0, .iload_n 1, 1), (1, .invokestatic 98, 3), (4, .ifCond .eq 25, 3), (7, .iload_n 2, 1), (8, .i2l, 1), (9, .lconst 0, 1), (10, .ldc2_w 102, 3), (13, .invokestatic 86, 3), (16, .ifCond .eq 13, 3), (19, .aload_n 0, 1), (20, .iload_n 1, 1), (21, .iload_n 2, 1), (22, .iload_n 3, 1), (23, .invokevirtual 108, 3), (26, .ifCond .eq 6, 3), (29, .ldc 116, 2), (31, .ireturn, 1), (32, .aload_n 0, 1), (33, .getfield 16, 3), (36, .bipush 60, 2), (38, .iload_n 1, 1), (39, .imul, 1), (40, .iload_n 3, 1), (41, .iadd, 1), (42, .iaload, 1), (43, .ireturn, 1)]
theorem zX11_get : (tX11_get.all fun q => decide (decode cX11_get q.1 = .ok q.2)) = true := by decide +kernel
def tX11_copy : List (Nat × Instr × Nat) := [(0, .iload_n 1, 1), (1, .invokestatic 98, 3), (4, .ifCond .eq 10, 3), (7, .iload_n 3, 1), (8, .invokestatic 98, 3), (11, .ifCond .ne 6, 3), (14, .bipush (-2), 2), (16, .ireturn, 1), (17, .aload_n 0, 1), (18, .getfield 7, 3), (21, .iload_n 1, 1), (22, .iaload, 1), (23, .ifCond .lt 12, 3), (26, .aload_n 0, 1), (27, .getfield 7, 3), (30, .iload_n 3, 1), (31, .iaload, 1), (32, .ifCond .ge 9, 3), (35, .aload_n 0, 1), (36, .iconst 1, 1), (37, .invokevirtual 104, 3), (40, .ireturn, 1), (41, .aload_n 0, 1), (42, .getfield 7, 3), (45, .iload_n 1, 1), (46, .iaload, 1), (47, .aload_n 0, 1), (48, .getfield 7, 3), (51, .iload_n 3, 1), (52, .iaload, 1), (53, .if_icmp .eq 9, 3), (56, .aload_n 0, 1), (57, .iconst 4, 1), (58, .invokevirtual 104, 3), (61, .ireturn, 1), (62, .iload_n 2, 1), (63, .ifCond .lt 48, 3), (66, .iload 4, 2), (68, .ifCond .lt 43, 3), (71, .iload 5, 2), (73, .ifCond .lt 38, 3), (76, .iload_n 2, 1), (77, .i2l, 1), (78, .iload 5, 2), (80, .i2l, 1), (81, .ladd, 1), (82, .aload_n 0, 1), (83, .getfield 13, 3), (86, .iload_n 1, 1), (87, .iaload, 1), (88, .i2l, 1), (89, .lcmp, 1), (90, .ifCond .gt 21, 3), (93, .iload 4, 2), (95, .i2l, 1), (96, .iload 5, 2), (98, .i2l, 1), (99, .ladd, 1), (100, .aload_n 0, 1), (101, .getfield 13, 3), (104, .iload_n 3, 1), (105, .iaload, 1), (106, .i2l, 1), (107, .lcmp, 1), (108, .ifCond .le 9, 3), (111, .aload_n 0, 1), (112, .iconst 2, 1), (113, .invokevirtual 104, 3), (116, .ireturn, 1), (117, .iconst 0, 1), (118, .istore 6, 2), (120, .iload 6, 2), (122, .iload 5, 2), (124, .if_icmp .ge 30, 3), (127, .aload_n 0, 1), (128, .getfield 19, 3), (131, .iload 6, 2), (133, .aload_n 0, 1), (134, .getfield 16, 3), (137, .bipush 60, 2), (139, .iload_n 1, 1), (140, .imul, 1), (141, .iload_n 2, 1), (142, .iadd, 1), (143, .iload 6, 2), (145, .iadd, 1), (146, .iaload, 1), (147, .iastore, 1), (148, .iinc 6 1, 3), (151, .goto (-31), 3), (154, .iconst 0, 1), (155, .istore 6, 2), (157, .iload 6, 2), (159, .iload 5, 2), (161, .if_icmp .ge 31, 3), (164, .aload_n 0, 1), (165, .getfield 16, 3), (168, .bipush 60, 2), (170, .iload_n 3, 1), (171, .imul, 1), (172, .iload 4, 2), (174, .iadd, 1), (175, .iload 6, 2), (177, .iadd, 1), (178, .aload_n 0, 1), (179, .getfield 19, 3), (182, .iload 6, 2), (184, .iaload, 1), (185, .iastore, 1), (186, .iinc 6 1, 3), (189, .goto (-32), 3), (192, .iconst 1, 1), (193, .ireturn, 1)]
theorem zX11_copy : (tX11_copy.all fun q => decide (decode cX11_copy q.1 = .ok q.2)) = true := by decide +kernel
def tX11_isText : List (Nat × Instr × Nat) := [(0, .iload_n 0, 1), (1, .i2l, 1), (2, .lconst 0, 1), (3, .ldc2_w 96, 3), (6, .invokestatic 86, 3), (9, .ireturn, 1)]
theorem zX11_isText : (tX11_isText.all fun q => decide (decode cX11_isText q.1 = .ok q.2)) = true := by decide +kernel
def tX11_isWay : List (Nat × Instr × Nat) := [(0, .iload_n 0, 1), (1, .i2l, 1), (2, .lconst 1, 1), (3, .ldc2_w 96, 3), (6, .invokestatic 86, 3), (9, .ireturn, 1)]
theorem zX11_isWay : (tX11_isWay.all fun q => decide (decode cX11_isWay q.1 = .ok q.2)) = true := by decide +kernel
def tX11_from : List (Nat × Instr × Nat) := [(0, .iload_n 0, 1), (1, .ifCond .ne 7, 3), (4, .iconst 0, 1), (5, .goto 10, 3), (8, .bipush 20, 2), (10, .bipush 30, 2), (12, .iload_n 0, 1), (13, .imul, 1), (14, .iadd, 1), (15, .ireturn, 1)]
theorem zX11_from : (tX11_from.all fun q => decide (decode cX11_from q.1 = .ok q.2)) = true := by decide +kernel
def tX11_type : List (Nat × Instr × Nat) := [(0, .iload_n 1, 1), (1, .invokestatic 117, 3), (4, .ifCond .eq 15, 3), (7, .iload_n 2, 1), (8, .i2l, 1), (9, .lconst 0, 1), (10, .ldc2_w 120, 3), (13, .invokestatic 86, 3), (16, .ifCond .ne 6, 3), (19, .bipush (-2), 2), (21, .ireturn, 1), (22, .aload_n 0, 1), (23, .getfield 25, 3), (26, .iload_n 1, 1), (27, .iaload, 1), (28, .iload_n 1, 1), (29, .ifCond .ne 8, 3), (32, .bipush 50, 2), (34, .goto 5, 3), (37, .bipush 30, 2), (39, .if_icmp .ne 6, 3), (42, .bipush (-4), 2), (44, .ireturn, 1), (45, .aload_n 0, 1), (46, .getfield 22, 3), (49, .iload_n 1, 1), (50, .invokestatic 122, 3), (53, .aload_n 0, 1), (54, .getfield 25, 3), (57, .iload_n 1, 1), (58, .iaload, 1), (59, .iadd, 1), (60, .iload_n 2, 1), (61, .iastore, 1), (62, .aload_n 0, 1), (63, .getfield 25, 3), (66, .iload_n 1, 1), (67, .dup2, 1), (68, .iaload, 1), (69, .iconst 1, 1), (70, .iadd, 1), (71, .iastore, 1), (72, .aload_n 0, 1), (73, .getfield 25, 3), (76, .iload_n 1, 1), (77, .iaload, 1), (78, .ireturn, 1)]
theorem zX11_type : (tX11_type.all fun q => decide (decode cX11_type q.1 = .ok q.2)) = true := by decide +kernel
def tX11_wipe : List (Nat × Instr × Nat) := [(0, .iload_n 1, 1), (1, .invokestatic 117, 3), (4, .ifCond .ne 6, 3), (7, .bipush (-2), 2), (9, .ireturn, 1), (10, .aload_n 0, 1), (11, .getfield 25, 3), (14, .iload_n 1, 1), (15, .iaload, 1), (16, .istore_n 2, 1), (17, .aload_n 0, 1), (18, .getfield 25, 3), (21, .iload_n 1, 1), (22, .iconst 0, 1), (23, .iastore, 1), (24, .iload_n 2, 1), (25, .ireturn, 1)]
theorem zX11_wipe : (tX11_wipe.all fun q => decide (decode cX11_wipe q.1 = .ok q.2)) = true := by decide +kernel
def tX11_here : List (Nat × Instr × Nat) := [(0, .aload_n 0, 1), (1, .getfield 125, 3), (4, .aload_n 0, 1), (5, .getfield 25, 3), (8, .iconst 0, 1), (9, .iaload, 1), (10, .if_icmp .ge 15, 3), (13, .aload_n 0, 1), (14, .getfield 22, 3), (17, .aload_n 0, 1), (18, .getfield 125, 3), (21, .iaload, 1), (22, .goto 4, 3), (25, .iconst (-1), 1), (26, .ireturn, 1)]
theorem zX11_here : (tX11_here.all fun q => decide (decode cX11_here q.1 = .ok q.2)) = true := by decide +kernel
def tX11_clears : List (Nat × Instr × Nat) := [(0, .aload_n 0, 1), (1, .iconst 0, 1), (2, .putfield 128, 3), (5, .aload_n 0, 1), (6, .bipush 11, 2), (8, .putfield 131, 3), (11, .return_, 1)]
theorem zX11_clears : (tX11_clears.all fun q => decide (decode cX11_clears q.1 = .ok q.2)) = true := by decide +kernel
def tX11_readsRoom : List (Nat × Instr × Nat) := [(0, .aload_n 0, 1), (1, .dup, 1), (2, .getfield 125, 3), (5, .iconst 1, 1), (6, .iadd, 1), (7, .putfield 125, 3), (10, .aload_n 0, 1), (11, .getfield 125, 3), (14, .istore_n 1, 1), (15, .iconst 0, 1), (16, .istore_n 2, 1), (17, .aload_n 0, 1), (18, .getfield 125, 3), (21, .iload_n 1, 1), (22, .iconst 2, 1), (23, .iadd, 1), (24, .if_icmp .ge 46, 3), (27, .aload_n 0, 1), (28, .invokevirtual 134, 3), (31, .i2l, 1), (32, .ldc2_w 138, 3), (35, .ldc2_w 140, 3), (38, .invokestatic 86, 3), (41, .ifCond .eq 29, 3), (44, .bipush 10, 2), (46, .iload_n 2, 1), (47, .imul, 1), (48, .aload_n 0, 1), (49, .invokevirtual 134, 3), (52, .iadd, 1), (53, .bipush 48, 2), (55, .isub, 1), (56, .istore_n 2, 1), (57, .aload_n 0, 1), (58, .dup, 1), (59, .getfield 125, 3), (62, .iconst 1, 1), (63, .iadd, 1), (64, .putfield 125, 3), (67, .goto (-50), 3), (70, .aload_n 0, 1), (71, .getfield 125, 3), (74, .iload_n 1, 1), (75, .if_icmp .le 22, 3), (78, .iload_n 2, 1), (79, .i2l, 1), (80, .lconst 1, 1), (81, .ldc2_w 142, 3), (84, .invokestatic 86, 3), (87, .ifCond .eq 10, 3), (90, .aload_n 0, 1), (91, .iload_n 2, 1), (92, .putfield 131, 3), (95, .iconst 1, 1), (96, .ireturn, 1), (97, .aload_n 0, 1), (98, .iload_n 1, 1), (99, .putfield 125, 3), (102, .iconst 0, 1), (103, .ireturn, 1)]
theorem zX11_readsRoom : (tX11_readsRoom.all fun q => decide (decode cX11_readsRoom q.1 = .ok q.2)) = true := by decide +kernel
def tX11_readsPart : List (Nat × Instr × Nat) := [(0, .aload_n 0, 1), (1, .invokevirtual 134, 3), (4, .bipush 114, 2), (6, .if_icmp .ne 8, 3), (9, .aload_n 0, 1), (10, .invokevirtual 144, 3), (13, .ireturn, 1), (14, .aload_n 0, 1), (15, .invokevirtual 134, 3), (18, .bipush 48, 2), (20, .isub, 1), (21, .istore_n 1, 1), (22, .iload_n 1, 1), (23, .invokestatic 148, 3), (26, .ifCond .eq 12, 3), (29, .aload_n 0, 1), (30, .getfield 128, 3), (33, .bipush 9, 2), (35, .if_icmp .ne 5, 3), (38, .iconst 0, 1), (39, .ireturn, 1), (40, .aload_n 0, 1), (41, .dup, 1), (42, .getfield 125, 3), (45, .iconst 1, 1), (46, .iadd, 1), (47, .putfield 125, 3), (50, .aload_n 0, 1), (51, .invokevirtual 134, 3), (54, .bipush 48, 2), (56, .isub, 1), (57, .istore_n 2, 1), (58, .iload_n 2, 1), (59, .invokestatic 148, 3), (62, .ifCond .ne 5, 3), (65, .iconst 0, 1), (66, .ireturn, 1), (67, .aload_n 0, 1), (68, .dup, 1), (69, .getfield 125, 3), (72, .iconst 1, 1), (73, .iadd, 1), (74, .putfield 125, 3), (77, .aload_n 0, 1), (78, .getfield 28, 3), (81, .aload_n 0, 1), (82, .getfield 128, 3), (85, .iload_n 1, 1), (86, .iastore, 1), (87, .aload_n 0, 1), (88, .getfield 31, 3), (91, .aload_n 0, 1), (92, .getfield 128, 3), (95, .iload_n 2, 1), (96, .iastore, 1), (97, .aload_n 0, 1), (98, .getfield 34, 3), (101, .aload_n 0, 1), (102, .getfield 128, 3), (105, .aload_n 0, 1), (106, .invokevirtual 134, 3), (109, .bipush 117, 2), (111, .if_icmp .eq 7, 3), (114, .iconst 1, 1), (115, .goto 4, 3), (118, .iconst 0, 1), (119, .bastore, 1), (120, .aload_n 0, 1), (121, .dup, 1), (122, .getfield 125, 3), (125, .aload_n 0, 1), (126, .invokevirtual 134, 3), (129, .bipush 117, 2), (131, .if_icmp .ne 7, 3), (134, .iconst 1, 1), (135, .goto 4, 3), (138, .iconst 0, 1), (139, .iadd, 1), (140, .putfield 125, 3), (143, .aload_n 0, 1), (144, .dup, 1), (145, .getfield 128, 3), (148, .iconst 1, 1), (149, .iadd, 1), (150, .putfield 128, 3), (153, .iconst 1, 1), (154, .ireturn, 1)]
theorem zX11_readsPart : (tX11_readsPart.all fun q => decide (decode cX11_readsPart q.1 = .ok q.2)) = true := by decide +kernel
def tX11_readsLand : List (Nat × Instr × Nat) := [(0, .aload_n 0, 1), (1, .iconst 0, 1), (2, .putfield 125, 3), (5, .aload_n 0, 1), (6, .invokevirtual 151, 3), (9, .aload_n 0, 1), (10, .getfield 25, 3), (13, .iconst 0, 1), (14, .iaload, 1), (15, .ifCond .le 7, 3), (18, .iconst 1, 1), (19, .goto 4, 3), (22, .iconst 0, 1), (23, .istore_n 1, 1), (24, .iload_n 1, 1), (25, .ifCond .eq 81, 3), (28, .aload_n 0, 1), (29, .invokevirtual 154, 3), (32, .ifCond .ne 12, 3), (35, .aload_n 0, 1), (36, .invokevirtual 151, 3), (39, .aload_n 0, 1), (40, .getfield 125, 3), (43, .ireturn, 1), (44, .aload_n 0, 1), (45, .getfield 125, 3), (48, .aload_n 0, 1), (49, .getfield 25, 3), (52, .iconst 0, 1), (53, .iaload, 1), (54, .if_icmp .ge 7, 3), (57, .iconst 1, 1), (58, .goto 4, 3), (61, .iconst 0, 1), (62, .istore_n 1, 1), (63, .iload_n 1, 1), (64, .ifCond .eq 21, 3), (67, .aload_n 0, 1), (68, .invokevirtual 134, 3), (71, .bipush 59, 2), (73, .if_icmp .eq 12, 3), (76, .aload_n 0, 1), (77, .invokevirtual 151, 3), (80, .aload_n 0, 1), (81, .getfield 125, 3), (84, .ireturn, 1), (85, .aload_n 0, 1), (86, .dup, 1), (87, .getfield 125, 3), (90, .iload_n 1, 1), (91, .ifCond .eq 7, 3), (94, .iconst 1, 1), (95, .goto 4, 3), (98, .iconst 0, 1), (99, .iadd, 1), (100, .putfield 125, 3), (103, .goto (-79), 3), (106, .iconst (-1), 1), (107, .ireturn, 1)]
theorem zX11_readsLand : (tX11_readsLand.all fun q => decide (decode cX11_readsLand q.1 = .ok q.2)) = true := by decide +kernel
def tX11_letterOf : List (Nat × Instr × Nat) := [(0, .iload_n 1, 1), (1, .bipush 97, 2), (3, .isub, 1), (4, .istore_n 2, 1), (5, .iload_n 1, 1), (6, .bipush 65, 2), (8, .isub, 1), (9, .istore_n 3, 1), (10, .iload_n 2, 1), (11, .i2l, 1), (12, .lconst 0, 1), (13, .aload_n 0, 1), (14, .getfield 128, 3), (17, .iconst 1, 1), (18, .isub, 1), (19, .i2l, 1), (20, .invokestatic 86, 3), (23, .ifCond .eq 9, 3), (26, .iconst 2, 1), (27, .iload_n 2, 1), (28, .imul, 1), (29, .goto 28, 3), (32, .iload_n 3, 1), (33, .i2l, 1), (34, .lconst 0, 1), (35, .aload_n 0, 1), (36, .getfield 128, 3), (39, .iconst 1, 1), (40, .isub, 1), (41, .i2l, 1), (42, .invokestatic 86, 3), (45, .ifCond .eq 11, 3), (48, .iconst 2, 1), (49, .iload_n 3, 1), (50, .imul, 1), (51, .iconst 1, 1), (52, .iadd, 1), (53, .goto 4, 3), (56, .iconst (-1), 1), (57, .ireturn, 1)]
theorem zX11_letterOf : (tX11_letterOf.all fun q => decide (decode cX11_letterOf q.1 = .ok q.2)) = true := by decide +kernel
def tX11_byteOf : List (Nat × Instr × Nat) := [(0, .iload_n 0, 1), (1, .iconst 2, 1), (2, .irem, 1), (3, .ifCond .ne 12, 3), (6, .bipush 97, 2), (8, .iload_n 0, 1), (9, .iconst 2, 1), (10, .idiv, 1), (11, .iadd, 1), (12, .goto 9, 3), (15, .bipush 65, 2), (17, .iload_n 0, 1), (18, .iconst 2, 1), (19, .idiv, 1), (20, .iadd, 1), (21, .ireturn, 1)]
theorem zX11_byteOf : (tX11_byteOf.all fun q => decide (decode cX11_byteOf q.1 = .ok q.2)) = true := by decide +kernel
def tX11_faultOf : List (Nat × Instr × Nat) := [(0, .aload_n 0, 1), (1, .invokevirtual 157, 3), (4, .istore_n 2, 1), (5, .iload_n 1, 1), (6, .ifCond .ne 5, 3), (9, .iload_n 2, 1), (10, .ireturn, 1), (11, .iconst 0, 1), (12, .istore_n 3, 1), (13, .iload_n 3, 1), (14, .aload_n 0, 1), (15, .getfield 25, 3), (18, .iload_n 1, 1), (19, .iaload, 1), (20, .if_icmp .ge 30, 3), (23, .aload_n 0, 1), (24, .aload_n 0, 1), (25, .getfield 22, 3), (28, .iload_n 1, 1), (29, .invokestatic 122, 3), (32, .iload_n 3, 1), (33, .iadd, 1), (34, .iaload, 1), (35, .invokevirtual 160, 3), (38, .iconst (-1), 1), (39, .if_icmp .ne 5, 3), (42, .iload_n 3, 1), (43, .ireturn, 1), (44, .iinc 3 1, 3), (47, .goto (-34), 3), (50, .iconst (-1), 1), (51, .ireturn, 1)]
theorem zX11_faultOf : (tX11_faultOf.all fun q => decide (decode cX11_faultOf q.1 = .ok q.2)) = true := by decide +kernel
def tX11_fault : List (Nat × Instr × Nat) := [(0, .iload_n 1, 1), (1, .invokestatic 117, 3), (4, .ifCond .eq 11, 3), (7, .aload_n 0, 1), (8, .iload_n 1, 1), (9, .invokevirtual 163, 3), (12, .goto 5, 3), (15, .bipush (-2), 2), (17, .ireturn, 1)]
theorem zX11_fault : (tX11_fault.all fun q => decide (decode cX11_fault q.1 = .ok q.2)) = true := by decide +kernel
def tX11_start : List (Nat × Instr × Nat) := [(0, .iload_n 1, 1), (1, .iconst 2, 1), (2, .irem, 1), (3, .ifCond .ne 14, 3), (6, .aload_n 0, 1), (7, .getfield 28, 3), (10, .iload_n 1, 1), (11, .iconst 2, 1), (12, .idiv, 1), (13, .iaload, 1), (14, .goto 11, 3), (17, .aload_n 0, 1), (18, .getfield 31, 3), (21, .iload_n 1, 1), (22, .iconst 2, 1), (23, .idiv, 1), (24, .iaload, 1), (25, .ireturn, 1)]
theorem zX11_start : (tX11_start.all fun q => decide (decode cX11_start q.1 = .ok q.2)) = true := by decide +kernel
def tX11_end : List (Nat × Instr × Nat) := [(0, .aload_n 0, 1), (1, .iload_n 1, 1), (2, .iconst 2, 1), (3, .irem, 1), (4, .ifCond .ne 9, 3), (7, .iload_n 1, 1), (8, .iconst 1, 1), (9, .iadd, 1), (10, .goto 6, 3), (13, .iload_n 1, 1), (14, .iconst 1, 1), (15, .isub, 1), (16, .invokevirtual 166, 3), (19, .ireturn, 1)]
theorem zX11_end : (tX11_end.all fun q => decide (decode cX11_end q.1 = .ok q.2)) = true := by decide +kernel
def tX11_back : List (Nat × Instr × Nat) := [(0, .iload_n 0, 1), (1, .iconst 2, 1), (2, .irem, 1), (3, .ifCond .ne 9, 3), (6, .iload_n 0, 1), (7, .iconst 1, 1), (8, .iadd, 1), (9, .goto 6, 3), (12, .iload_n 0, 1), (13, .iconst 1, 1), (14, .isub, 1), (15, .ireturn, 1)]
theorem zX11_back : (tX11_back.all fun q => decide (decode cX11_back q.1 = .ok q.2)) = true := by decide +kernel
def tX11_isShut : List (Nat × Instr × Nat) := [(0, .aload_n 0, 1), (1, .getfield 169, 3), (4, .iload_n 1, 1), (5, .ishr, 1), (6, .iconst 1, 1), (7, .iand, 1), (8, .iconst 1, 1), (9, .if_icmp .ne 7, 3), (12, .iconst 1, 1), (13, .goto 4, 3), (16, .iconst 0, 1), (17, .ireturn, 1)]
theorem zX11_isShut : (tX11_isShut.all fun q => decide (decode cX11_isShut q.1 = .ok q.2)) = true := by decide +kernel
def tX11_gate : List (Nat × Instr × Nat) := [(0, .aload_n 0, 1), (1, .invokevirtual 157, 3), (4, .pop, 1), (5, .iload_n 1, 1), (6, .i2l, 1), (7, .lconst 0, 1), (8, .aload_n 0, 1), (9, .getfield 128, 3), (12, .iconst 1, 1), (13, .isub, 1), (14, .i2l, 1), (15, .invokestatic 86, 3), (18, .ifCond .eq 15, 3), (21, .iload_n 2, 1), (22, .i2l, 1), (23, .lconst 0, 1), (24, .ldc2_w 96, 3), (27, .invokestatic 86, 3), (30, .ifCond .ne 6, 3), (33, .bipush (-2), 2), (35, .ireturn, 1), (36, .iload_n 2, 1), (37, .ifCond .ne 12, 3), (40, .aload_n 0, 1), (41, .getfield 28, 3), (44, .iload_n 1, 1), (45, .iaload, 1), (46, .goto 47, 3), (49, .iload_n 2, 1), (50, .iconst 1, 1), (51, .if_icmp .ne 12, 3), (54, .aload_n 0, 1), (55, .getfield 31, 3), (58, .iload_n 1, 1), (59, .iaload, 1), (60, .goto 33, 3), (63, .iload_n 2, 1), (64, .iconst 2, 1), (65, .if_icmp .ne 15, 3), (68, .aload_n 0, 1), (69, .getfield 34, 3), (72, .iload_n 1, 1), (73, .baload, 1), (74, .ifCond .eq 18, 3), (77, .goto 11, 3), (80, .aload_n 0, 1), (81, .iload_n 1, 1), (82, .invokevirtual 172, 3), (85, .ifCond .eq 7, 3), (88, .iconst 1, 1), (89, .goto 4, 3), (92, .iconst 0, 1), (93, .ireturn, 1)]
theorem zX11_gate : (tX11_gate.all fun q => decide (decode cX11_gate q.1 = .ok q.2)) = true := by decide +kernel
def tX11_room : List (Nat × Instr × Nat) := [(0, .aload_n 0, 1), (1, .invokevirtual 157, 3), (4, .pop, 1), (5, .aload_n 0, 1), (6, .getfield 131, 3), (9, .ireturn, 1)]
theorem zX11_room : (tX11_room.all fun q => decide (decode cX11_room q.1 = .ok q.2)) = true := by decide +kernel
def tX11_shut : List (Nat × Instr × Nat) := [(0, .iload_n 1, 1), (1, .i2l, 1), (2, .lconst 0, 1), (3, .ldc2_w 175, 3), (6, .invokestatic 86, 3), (9, .ifCond .ne 6, 3), (12, .bipush (-2), 2), (14, .ireturn, 1), (15, .aload_n 0, 1), (16, .getfield 169, 3), (19, .istore_n 2, 1), (20, .aload_n 0, 1), (21, .iload_n 1, 1), (22, .putfield 169, 3), (25, .iload_n 2, 1), (26, .ireturn, 1)]
theorem zX11_shut : (tX11_shut.all fun q => decide (decode cX11_shut q.1 = .ok q.2)) = true := by decide +kernel
def tX11_stamp : List (Nat × Instr × Nat) := [(0, .aload_n 0, 1), (1, .getfield 34, 3), (4, .iload_n 2, 1), (5, .iconst 2, 1), (6, .idiv, 1), (7, .baload, 1), (8, .ifCond .ne 4, 3), (11, .return_, 1), (12, .aload_n 0, 1), (13, .getfield 41, 3), (16, .iload_n 1, 1), (17, .iaload, 1), (18, .istore_n 3, 1), (19, .iload_n 3, 1), (20, .ifCond .le 46, 3), (23, .aload_n 0, 1), (24, .getfield 38, 3), (27, .bipush 60, 2), (29, .iload_n 1, 1), (30, .imul, 1), (31, .iload_n 3, 1), (32, .iadd, 1), (33, .iconst 1, 1), (34, .isub, 1), (35, .iaload, 1), (36, .iload_n 2, 1), (37, .invokestatic 177, 3), (40, .if_icmp .ne 26, 3), (43, .aload_n 0, 1), (44, .getfield 41, 3), (47, .iload_n 1, 1), (48, .dup2, 1), (49, .iaload, 1), (50, .iconst 1, 1), (51, .isub, 1), (52, .iastore, 1), (53, .aload_n 0, 1), (54, .dup, 1), (55, .getfield 180, 3), (58, .iconst 1, 1), (59, .iadd, 1), (60, .putfield 180, 3), (63, .goto 25, 3), (66, .aload_n 0, 1), (67, .getfield 38, 3), (70, .bipush 60, 2), (72, .iload_n 1, 1), (73, .imul, 1), (74, .iload_n 3, 1), (75, .iadd, 1), (76, .iload_n 2, 1), (77, .iastore, 1), (78, .aload_n 0, 1), (79, .getfield 41, 3), (82, .iload_n 1, 1), (83, .dup2, 1), (84, .iaload, 1), (85, .iconst 1, 1), (86, .iadd, 1), (87, .iastore, 1), (88, .return_, 1)]
theorem zX11_stamp : (tX11_stamp.all fun q => decide (decode cX11_stamp q.1 = .ok q.2)) = true := by decide +kernel
def tX11_lengthOf : List (Nat × Instr × Nat) := [(0, .aload_n 0, 1), (1, .iload_n 1, 1), (2, .invokevirtual 163, 3), (5, .iconst (-1), 1), (6, .if_icmp .ne 12, 3), (9, .aload_n 0, 1), (10, .getfield 25, 3), (13, .iload_n 1, 1), (14, .iaload, 1), (15, .goto 4, 3), (18, .iconst 0, 1), (19, .ireturn, 1)]
theorem zX11_lengthOf : (tX11_lengthOf.all fun q => decide (decode cX11_lengthOf q.1 = .ok q.2)) = true := by decide +kernel
def tX11_letterAt : List (Nat × Instr × Nat) := [(0, .aload_n 0, 1), (1, .aload_n 0, 1), (2, .getfield 22, 3), (5, .iload_n 1, 1), (6, .invokestatic 122, 3), (9, .iload_n 2, 1), (10, .iadd, 1), (11, .iaload, 1), (12, .invokevirtual 160, 3), (15, .ireturn, 1)]
theorem zX11_letterAt : (tX11_letterAt.all fun q => decide (decode cX11_letterAt q.1 = .ok q.2)) = true := by decide +kernel
def tX11_findPaper : List (Nat × Instr × Nat) := [(0, .aload_n 0, 1), (1, .invokevirtual 157, 3), (4, .pop, 1), (5, .aload_n 0, 1), (6, .getfield 41, 3), (9, .iload_n 1, 1), (10, .iconst 0, 1), (11, .iastore, 1), (12, .iload_n 2, 1), (13, .ifCond .ne 7, 3), (16, .iconst 0, 1), (17, .goto 8, 3), (20, .aload_n 0, 1), (21, .iload_n 2, 1), (22, .invokevirtual 183, 3), (25, .istore_n 3, 1), (26, .iconst 0, 1), (27, .istore 4, 2), (29, .iload 4, 2), (31, .iload_n 3, 1), (32, .if_icmp .ge 21, 3), (35, .aload_n 0, 1), (36, .iload_n 1, 1), (37, .aload_n 0, 1), (38, .iload_n 2, 1), (39, .iload 4, 2), (41, .invokevirtual 186, 3), (44, .invokevirtual 189, 3), (47, .iinc 4 1, 3), (50, .goto (-21), 3), (53, .return_, 1)]
theorem zX11_findPaper : (tX11_findPaper.all fun q => decide (decode cX11_findPaper q.1 = .ok q.2)) = true := by decide +kernel
def tX11_paper : List (Nat × Instr × Nat) := [(0, .iload_n 1, 1), (1, .invokestatic 193, 3), (4, .ifCond .eq 8, 3), (7, .iload_n 2, 1), (8, .iconst (-1), 1), (9, .if_icmp .ge 6, 3), (12, .bipush (-2), 2), (14, .ireturn, 1), (15, .aload_n 0, 1), (16, .iconst 0, 1), (17, .iload_n 1, 1), (18, .invokevirtual 196, 3), (21, .iload_n 2, 1), (22, .iconst (-1), 1), (23, .if_icmp .ne 12, 3), (26, .aload_n 0, 1), (27, .getfield 41, 3), (30, .iconst 0, 1), (31, .iaload, 1), (32, .goto 26, 3), (35, .iload_n 2, 1), (36, .aload_n 0, 1), (37, .getfield 41, 3), (40, .iconst 0, 1), (41, .iaload, 1), (42, .if_icmp .ge 15, 3), (45, .aload_n 0, 1), (46, .getfield 38, 3), (49, .iload_n 2, 1), (50, .iaload, 1), (51, .invokestatic 199, 3), (54, .goto 4, 3), (57, .iconst (-1), 1), (58, .ireturn, 1)]
theorem zX11_paper : (tX11_paper.all fun q => decide (decode cX11_paper q.1 = .ok q.2)) = true := by decide +kernel
def tX11_isBegun : List (Nat × Instr × Nat) := [(0, .iload_n 1, 1), (1, .i2l, 1), (2, .lconst 0, 1), (3, .ldc2_w 96, 3), (6, .invokestatic 86, 3), (9, .ireturn, 1)]
theorem zX11_isBegun : (tX11_isBegun.all fun q => decide (decode cX11_isBegun q.1 = .ok q.2)) = true := by decide +kernel
def tX11_judgedOf : List (Nat × Instr × Nat) := [(0, .aload_n 0, 1), (1, .iconst 0, 1), (2, .iload_n 3, 1), (3, .invokevirtual 196, 3), (6, .aload_n 0, 1), (7, .iconst 0, 1), (8, .putfield 180, 3), (11, .iload_n 2, 1), (12, .istore 5, 2), (14, .aload_n 0, 1), (15, .getfield 41, 3), (18, .iconst 0, 1), (19, .iaload, 1), (20, .istore 6, 2), (22, .iconst (-1), 1), (23, .istore 7, 2), (25, .aload_n 0, 1), (26, .iload_n 1, 1), (27, .invokevirtual 183, 3), (30, .istore 8, 2), (32, .iconst 0, 1), (33, .istore 9, 2), (35, .iload 9, 2), (37, .iload 8, 2), (39, .if_icmp .ge 171, 3), (42, .iload 7, 2), (44, .iconst (-1), 1), (45, .if_icmp .ne 165, 3), (48, .aload_n 0, 1), (49, .iload_n 1, 1), (50, .iload 9, 2), (52, .invokevirtual 186, 3), (55, .istore 10, 2), (57, .aload_n 0, 1), (58, .getfield 41, 3), (61, .iconst 0, 1), (62, .iaload, 1), (63, .ifCond .le 28, 3), (66, .aload_n 0, 1), (67, .getfield 38, 3), (70, .aload_n 0, 1), (71, .getfield 41, 3), (74, .iconst 0, 1), (75, .iaload, 1), (76, .iconst 1, 1), (77, .isub, 1), (78, .iaload, 1), (79, .iload 10, 2), (81, .invokestatic 177, 3), (84, .if_icmp .ne 7, 3), (87, .iconst 1, 1), (88, .goto 4, 3), (91, .iconst 0, 1), (92, .istore 11, 2), (94, .aload_n 0, 1), (95, .getfield 34, 3), (98, .iload 10, 2), (100, .iconst 2, 1), (101, .idiv, 1), (102, .baload, 1), (103, .ifCond .eq 21, 3), (106, .iload 11, 2), (108, .ifCond .ne 16, 3), (111, .aload_n 0, 1), (112, .getfield 41, 3), (115, .iconst 0, 1), (116, .iaload, 1), (117, .aload_n 0, 1), (118, .getfield 131, 3), (121, .if_icmp .ge 7, 3), (124, .iconst 1, 1), (125, .goto 4, 3), (128, .iconst 0, 1), (129, .istore 12, 2), (131, .aload_n 0, 1), (132, .iload 10, 2), (134, .invokevirtual 166, 3), (137, .iload 5, 2), (139, .if_icmp .ne 19, 3), (142, .aload_n 0, 1), (143, .iload 10, 2), (145, .iconst 2, 1), (146, .idiv, 1), (147, .invokevirtual 172, 3), (150, .ifCond .ne 8, 3), (153, .iload 12, 2), (155, .ifCond .ne 10, 3), (158, .iload 9, 2), (160, .istore 7, 2), (162, .goto 42, 3), (165, .aload_n 0, 1), (166, .iconst 0, 1), (167, .iload 10, 2), (169, .invokevirtual 189, 3), (172, .aload_n 0, 1), (173, .iload 10, 2), (175, .invokevirtual 202, 3), (178, .istore 5, 2), (180, .aload_n 0, 1), (181, .getfield 41, 3), (184, .iconst 0, 1), (185, .iaload, 1), (186, .iload 6, 2), (188, .if_icmp .le 12, 3), (191, .aload_n 0, 1), (192, .getfield 41, 3), (195, .iconst 0, 1), (196, .iaload, 1), (197, .goto 5, 3), (200, .iload 6, 2), (202, .istore 6, 2), (204, .iinc 9 1, 3), (207, .goto (-172), 3), (210, .iload 4, 2), (212, .ifCond .ne 8, 3), (215, .iload 7, 2), (217, .goto 44, 3), (220, .iload 4, 2), (222, .iconst 1, 1), (223, .if_icmp .ne 8, 3), (226, .iload 5, 2), (228, .goto 33, 3), (231, .iload 4, 2), (233, .iconst 2, 1), (234, .if_icmp .ne 8, 3), (237, .iload 6, 2), (239, .goto 22, 3), (242, .iload 4, 2), (244, .iconst 3, 1), (245, .if_icmp .ne 12, 3), (248, .aload_n 0, 1), (249, .getfield 41, 3), (252, .iconst 0, 1), (253, .iaload, 1), (254, .goto 7, 3), (257, .aload_n 0, 1), (258, .getfield 180, 3), (261, .ireturn, 1)]
theorem zX11_judgedOf : (tX11_judgedOf.all fun q => decide (decode cX11_judgedOf q.1 = .ok q.2)) = true := by decide +kernel
def tX11_judged : List (Nat × Instr × Nat) := [(0, .iload_n 1, 1), (1, .invokestatic 193, 3), (4, .ifCond .eq 43, 3), (7, .iload_n 2, 1), (8, .invokestatic 148, 3), (11, .ifCond .eq 36, 3), (14, .aload_n 0, 1), (15, .iload_n 3, 1), (16, .invokevirtual 205, 3), (19, .ifCond .eq 28, 3), (22, .iload 4, 2), (24, .i2l, 1), (25, .lconst 0, 1), (26, .ldc2_w 208, 3), (29, .invokestatic 86, 3), (32, .ifCond .eq 15, 3), (35, .aload_n 0, 1), (36, .iload_n 1, 1), (37, .iload_n 2, 1), (38, .iload_n 3, 1), (39, .iload 4, 2), (41, .invokevirtual 210, 3), (44, .goto 5, 3), (47, .bipush (-2), 2), (49, .ireturn, 1)]
theorem zX11_judged : (tX11_judged.all fun q => decide (decode cX11_judged q.1 = .ok q.2)) = true := by decide +kernel
def tX11_alike : List (Nat × Instr × Nat) := [(0, .iconst 0, 1), (1, .istore_n 1, 1), (2, .iload_n 1, 1), (3, .aload_n 0, 1), (4, .getfield 41, 3), (7, .iconst 0, 1), (8, .iaload, 1), (9, .if_icmp .ge 37, 3), (12, .iload_n 1, 1), (13, .aload_n 0, 1), (14, .getfield 41, 3), (17, .iconst 1, 1), (18, .iaload, 1), (19, .if_icmp .ge 27, 3), (22, .aload_n 0, 1), (23, .getfield 38, 3), (26, .iload_n 1, 1), (27, .iaload, 1), (28, .aload_n 0, 1), (29, .getfield 38, 3), (32, .bipush 60, 2), (34, .iload_n 1, 1), (35, .iadd, 1), (36, .iaload, 1), (37, .if_icmp .ne 9, 3), (40, .iinc 1 1, 3), (43, .goto (-41), 3), (46, .iload_n 1, 1), (47, .ireturn, 1)]
theorem zX11_alike : (tX11_alike.all fun q => decide (decode cX11_alike q.1 = .ok q.2)) = true := by decide +kernel
def tX11_sameOf : List (Nat × Instr × Nat) := [(0, .aload_n 0, 1), (1, .iconst 0, 1), (2, .iload_n 1, 1), (3, .invokevirtual 196, 3), (6, .aload_n 0, 1), (7, .iconst 1, 1), (8, .iload_n 2, 1), (9, .invokevirtual 196, 3), (12, .aload_n 0, 1), (13, .getfield 41, 3), (16, .iconst 0, 1), (17, .iaload, 1), (18, .aload_n 0, 1), (19, .getfield 41, 3), (22, .iconst 1, 1), (23, .iaload, 1), (24, .if_icmp .ne 20, 3), (27, .aload_n 0, 1), (28, .invokevirtual 214, 3), (31, .aload_n 0, 1), (32, .getfield 41, 3), (35, .iconst 0, 1), (36, .iaload, 1), (37, .if_icmp .ne 7, 3), (40, .iconst 1, 1), (41, .goto 4, 3), (44, .iconst 0, 1), (45, .ireturn, 1)]
theorem zX11_sameOf : (tX11_sameOf.all fun q => decide (decode cX11_sameOf q.1 = .ok q.2)) = true := by decide +kernel
def tX11_same : List (Nat × Instr × Nat) := [(0, .iload_n 1, 1), (1, .invokestatic 193, 3), (4, .ifCond .eq 19, 3), (7, .iload_n 2, 1), (8, .invokestatic 193, 3), (11, .ifCond .eq 12, 3), (14, .aload_n 0, 1), (15, .iload_n 1, 1), (16, .iload_n 2, 1), (17, .invokevirtual 217, 3), (20, .goto 5, 3), (23, .bipush (-2), 2), (25, .ireturn, 1)]
theorem zX11_same : (tX11_same.all fun q => decide (decode cX11_same q.1 = .ok q.2)) = true := by decide +kernel
def tX11_isUnseen : List (Nat × Instr × Nat) := [(0, .aload_n 0, 1), (1, .getfield 34, 3), (4, .iload_n 1, 1), (5, .iconst 2, 1), (6, .idiv, 1), (7, .baload, 1), (8, .ifCond .ne 17, 3), (11, .aload_n 0, 1), (12, .iload_n 1, 1), (13, .iconst 2, 1), (14, .idiv, 1), (15, .invokevirtual 172, 3), (18, .ifCond .ne 7, 3), (21, .iconst 1, 1), (22, .goto 4, 3), (25, .iconst 0, 1), (26, .ireturn, 1)]
theorem zX11_isUnseen : (tX11_isUnseen.all fun q => decide (decode cX11_isUnseen q.1 = .ok q.2)) = true := by decide +kernel
def tX11_findUnseen : List (Nat × Instr × Nat) := [(0, .iconst 0, 1), (1, .istore_n 1, 1), (2, .iload_n 1, 1), (3, .bipush 8, 2), (5, .if_icmp .ge 196, 3), (8, .iconst 0, 1), (9, .istore_n 2, 1), (10, .iload_n 2, 1), (11, .bipush 8, 2), (13, .if_icmp .ge 53, 3), (16, .aload_n 0, 1), (17, .getfield 44, 3), (20, .bipush 8, 2), (22, .iload_n 1, 1), (23, .imul, 1), (24, .iload_n 2, 1), (25, .iadd, 1), (26, .iload_n 1, 1), (27, .iload_n 2, 1), (28, .if_icmp .ne 7, 3), (31, .iconst 0, 1), (32, .goto 6, 3), (35, .sipush 1000, 3), (38, .iastore, 1), (39, .aload_n 0, 1), (40, .getfield 47, 3), (43, .bipush 8, 2), (45, .iload_n 1, 1), (46, .imul, 1), (47, .iload_n 2, 1), (48, .iadd, 1), (49, .iload_n 1, 1), (50, .iload_n 2, 1), (51, .if_icmp .ne 7, 3), (54, .lconst 1, 1), (55, .goto 4, 3), (58, .lconst 0, 1), (59, .lastore, 1), (60, .iinc 2 1, 3), (63, .goto (-53), 3), (66, .iconst 1, 1), (67, .istore_n 2, 1), (68, .iload_n 2, 1), (69, .bipush 8, 2), (71, .if_icmp .ge 124, 3), (74, .iconst 0, 1), (75, .istore_n 3, 1), (76, .iload_n 3, 1), (77, .iconst 2, 1), (78, .aload_n 0, 1), (79, .getfield 128, 3), (82, .imul, 1), (83, .if_icmp .ge 106, 3), (86, .aload_n 0, 1), (87, .iload_n 3, 1), (88, .invokevirtual 220, 3), (91, .ifCond .eq 28, 3), (94, .aload_n 0, 1), (95, .getfield 44, 3), (98, .bipush 8, 2), (100, .iload_n 1, 1), (101, .imul, 1), (102, .aload_n 0, 1), (103, .iload_n 3, 1), (104, .invokevirtual 166, 3), (107, .iadd, 1), (108, .iaload, 1), (109, .iload_n 2, 1), (110, .iconst 1, 1), (111, .isub, 1), (112, .if_icmp .ne 7, 3), (115, .iconst 1, 1), (116, .goto 4, 3), (119, .iconst 0, 1), (120, .istore 4, 2), (122, .bipush 8, 2), (124, .iload_n 1, 1), (125, .imul, 1), (126, .aload_n 0, 1), (127, .iload_n 3, 1), (128, .invokevirtual 202, 3), (131, .iadd, 1), (132, .istore 5, 2), (134, .iload 4, 2), (136, .ifCond .eq 47, 3), (139, .aload_n 0, 1), (140, .getfield 44, 3), (143, .iload 5, 2), (145, .iaload, 1), (146, .iload_n 2, 1), (147, .if_icmp .lt 36, 3), (150, .aload_n 0, 1), (151, .getfield 44, 3), (154, .iload 5, 2), (156, .iload_n 2, 1), (157, .iastore, 1), (158, .aload_n 0, 1), (159, .getfield 47, 3), (162, .iload 5, 2), (164, .dup2, 1), (165, .laload, 1), (166, .aload_n 0, 1), (167, .getfield 47, 3), (170, .bipush 8, 2), (172, .iload_n 1, 1), (173, .imul, 1), (174, .aload_n 0, 1), (175, .iload_n 3, 1), (176, .invokevirtual 166, 3), (179, .iadd, 1), (180, .laload, 1), (181, .ladd, 1), (182, .lastore, 1), (183, .iinc 3 1, 3), (186, .goto (-110), 3), (189, .iinc 2 1, 3), (192, .goto (-124), 3), (195, .iinc 1 1, 3), (198, .goto (-196), 3), (201, .return_, 1)]
theorem zX11_findUnseen : (tX11_findUnseen.all fun q => decide (decode cX11_findUnseen q.1 = .ok q.2)) = true := by decide +kernel
def tX11_findBetween : List (Nat × Instr × Nat) := [(0, .aload_n 0, 1), (1, .invokevirtual 214, 3), (4, .istore_n 1, 1), (5, .aload_n 0, 1), (6, .iconst 0, 1), (7, .putfield 223, 3), (10, .aload_n 0, 1), (11, .getfield 41, 3), (14, .iconst 0, 1), (15, .iaload, 1), (16, .iconst 1, 1), (17, .isub, 1), (18, .istore_n 2, 1), (19, .iload_n 2, 1), (20, .iload_n 1, 1), (21, .if_icmp .lt 37, 3), (24, .aload_n 0, 1), (25, .getfield 51, 3), (28, .aload_n 0, 1), (29, .getfield 223, 3), (32, .aload_n 0, 1), (33, .getfield 38, 3), (36, .iload_n 2, 1), (37, .iaload, 1), (38, .invokestatic 177, 3), (41, .iastore, 1), (42, .aload_n 0, 1), (43, .dup, 1), (44, .getfield 223, 3), (47, .iconst 1, 1), (48, .iadd, 1), (49, .putfield 223, 3), (52, .iinc 2 (-1), 3), (55, .goto (-36), 3), (58, .iload_n 1, 1), (59, .istore_n 2, 1), (60, .iload_n 2, 1), (61, .aload_n 0, 1), (62, .getfield 41, 3), (65, .iconst 1, 1), (66, .iaload, 1), (67, .if_icmp .ge 37, 3), (70, .aload_n 0, 1), (71, .getfield 51, 3), (74, .aload_n 0, 1), (75, .getfield 223, 3), (78, .aload_n 0, 1), (79, .getfield 38, 3), (82, .bipush 60, 2), (84, .iload_n 2, 1), (85, .iadd, 1), (86, .iaload, 1), (87, .iastore, 1), (88, .aload_n 0, 1), (89, .dup, 1), (90, .getfield 223, 3), (93, .iconst 1, 1), (94, .iadd, 1), (95, .putfield 223, 3), (98, .iinc 2 1, 3), (101, .goto (-41), 3), (104, .return_, 1)]
theorem zX11_findBetween : (tX11_findBetween.all fun q => decide (decode cX11_findBetween q.1 = .ok q.2)) = true := by decide +kernel
def tX11_goesOn : List (Nat × Instr × Nat) := [(0, .aload_n 0, 1), (1, .aload_n 0, 1), (2, .getfield 235, 3), (5, .ifCond .eq 24, 3), (8, .aload_n 0, 1), (9, .getfield 44, 3), (12, .bipush 8, 2), (14, .iload_n 1, 1), (15, .imul, 1), (16, .iload_n 2, 1), (17, .iadd, 1), (18, .iaload, 1), (19, .sipush 1000, 3), (22, .if_icmp .ge 7, 3), (25, .iconst 1, 1), (26, .goto 4, 3), (29, .iconst 0, 1), (30, .putfield 235, 3), (33, .aload_n 0, 1), (34, .dup, 1), (35, .getfield 232, 3), (38, .aload_n 0, 1), (39, .getfield 44, 3), (42, .bipush 8, 2), (44, .iload_n 1, 1), (45, .imul, 1), (46, .iload_n 2, 1), (47, .iadd, 1), (48, .iaload, 1), (49, .iadd, 1), (50, .putfield 232, 3), (53, .aload_n 0, 1), (54, .dup, 1), (55, .getfield 239, 3), (58, .aload_n 0, 1), (59, .getfield 47, 3), (62, .bipush 8, 2), (64, .iload_n 1, 1), (65, .imul, 1), (66, .iload_n 2, 1), (67, .iadd, 1), (68, .laload, 1), (69, .lmul, 1), (70, .putfield 239, 3), (73, .return_, 1)]
theorem zX11_goesOn : (tX11_goesOn.all fun q => decide (decode cX11_goesOn q.1 = .ok q.2)) = true := by decide +kernel
def tX11_findShortest : List (Nat × Instr × Nat) := [(0, .aload_n 0, 1), (1, .iconst 0, 1), (2, .iload_n 2, 1), (3, .invokevirtual 196, 3), (6, .aload_n 0, 1), (7, .iconst 1, 1), (8, .iload 4, 2), (10, .invokevirtual 196, 3), (13, .aload_n 0, 1), (14, .invokevirtual 226, 3), (17, .aload_n 0, 1), (18, .invokevirtual 229, 3), (21, .aload_n 0, 1), (22, .iconst 0, 1), (23, .putfield 232, 3), (26, .aload_n 0, 1), (27, .aload_n 0, 1), (28, .getfield 41, 3), (31, .iconst 0, 1), (32, .iaload, 1), (33, .aload_n 0, 1), (34, .getfield 131, 3), (37, .if_icmp .gt 20, 3), (40, .aload_n 0, 1), (41, .getfield 41, 3), (44, .iconst 1, 1), (45, .iaload, 1), (46, .aload_n 0, 1), (47, .getfield 131, 3), (50, .if_icmp .gt 7, 3), (53, .iconst 1, 1), (54, .goto 4, 3), (57, .iconst 0, 1), (58, .putfield 235, 3), (61, .aload_n 0, 1), (62, .lconst 1, 1), (63, .putfield 239, 3), (66, .iload_n 1, 1), (67, .istore 5, 2), (69, .iconst 0, 1), (70, .istore 6, 2), (72, .iload 6, 2), (74, .aload_n 0, 1), (75, .getfield 223, 3), (78, .if_icmp .ge 75, 3), (81, .aload_n 0, 1), (82, .getfield 51, 3), (85, .iload 6, 2), (87, .iaload, 1), (88, .istore 7, 2), (90, .aload_n 0, 1), (91, .iload 5, 2), (93, .aload_n 0, 1), (94, .iload 7, 2), (96, .invokevirtual 166, 3), (99, .invokevirtual 243, 3), (102, .aload_n 0, 1), (103, .aload_n 0, 1), (104, .getfield 235, 3), (107, .ifCond .eq 18, 3), (110, .aload_n 0, 1), (111, .iload 7, 2), (113, .iconst 2, 1), (114, .idiv, 1), (115, .invokevirtual 172, 3), (118, .ifCond .ne 7, 3), (121, .iconst 1, 1), (122, .goto 4, 3), (125, .iconst 0, 1), (126, .putfield 235, 3), (129, .aload_n 0, 1), (130, .dup, 1), (131, .getfield 232, 3), (134, .iconst 1, 1), (135, .iadd, 1), (136, .putfield 232, 3), (139, .aload_n 0, 1), (140, .iload 7, 2), (142, .invokevirtual 202, 3), (145, .istore 5, 2), (147, .iinc 6 1, 3), (150, .goto (-78), 3), (153, .aload_n 0, 1), (154, .iload 5, 2), (156, .iload_n 3, 1), (157, .invokevirtual 243, 3), (160, .return_, 1)]
theorem zX11_findShortest : (tX11_findShortest.all fun q => decide (decode cX11_findShortest q.1 = .ok q.2)) = true := by decide +kernel
def tX11_shortestOf : List (Nat × Instr × Nat) := [(0, .aload_n 0, 1), (1, .iload_n 1, 1), (2, .iload_n 2, 1), (3, .iload_n 3, 1), (4, .iload 4, 2), (6, .invokevirtual 246, 3), (9, .iload 5, 2), (11, .iconst 1, 1), (12, .if_icmp .ne 21, 3), (15, .aload_n 0, 1), (16, .getfield 235, 3), (19, .ifCond .eq 10, 3), (22, .aload_n 0, 1), (23, .getfield 239, 3), (26, .goto 25, 3), (29, .lconst 0, 1), (30, .goto 21, 3), (33, .aload_n 0, 1), (34, .getfield 235, 3), (37, .ifCond .eq 11, 3), (40, .aload_n 0, 1), (41, .getfield 232, 3), (44, .i2l, 1), (45, .goto 6, 3), (48, .ldc2_w 250, 3), (51, .lreturn, 1)]
theorem zX11_shortestOf : (tX11_shortestOf.all fun q => decide (decode cX11_shortestOf q.1 = .ok q.2)) = true := by decide +kernel
def tX11_isAsked : List (Nat × Instr × Nat) := [(0, .iload_n 1, 1), (1, .invokestatic 148, 3), (4, .ifCond .eq 31, 3), (7, .aload_n 0, 1), (8, .iload_n 2, 1), (9, .invokevirtual 205, 3), (12, .ifCond .eq 23, 3), (15, .iload_n 3, 1), (16, .invokestatic 148, 3), (19, .ifCond .eq 16, 3), (22, .aload_n 0, 1), (23, .iload 4, 2), (25, .invokevirtual 205, 3), (28, .ifCond .eq 7, 3), (31, .iconst 1, 1), (32, .goto 4, 3), (35, .iconst 0, 1), (36, .ireturn, 1)]
theorem zX11_isAsked : (tX11_isAsked.all fun q => decide (decode cX11_isAsked q.1 = .ok q.2)) = true := by decide +kernel
def tX11_shortest : List (Nat × Instr × Nat) := [(0, .aload_n 0, 1), (1, .iload_n 1, 1), (2, .iload_n 2, 1), (3, .iload_n 3, 1), (4, .iload 4, 2), (6, .invokevirtual 252, 3), (9, .ifCond .eq 25, 3), (12, .iload 5, 2), (14, .invokestatic 256, 3), (17, .ifCond .eq 17, 3), (20, .aload_n 0, 1), (21, .iload_n 1, 1), (22, .iload_n 2, 1), (23, .iload_n 3, 1), (24, .iload 4, 2), (26, .iload 5, 2), (28, .invokevirtual 259, 3), (31, .goto 8, 3), (34, .bipush (-2), 2), (36, .invokestatic 263, 3), (39, .lreturn, 1)]
theorem zX11_shortest : (tX11_shortest.all fun q => decide (decode cX11_shortest q.1 = .ok q.2)) = true := by decide +kernel
def tX11_leastUnseen : List (Nat × Instr × Nat) := [(0, .iconst (-1), 1), (1, .istore_n 3, 1), (2, .iconst 0, 1), (3, .istore 4, 2), (5, .iload 4, 2), (7, .iconst 2, 1), (8, .aload_n 0, 1), (9, .getfield 128, 3), (12, .imul, 1), (13, .if_icmp .ge 96, 3), (16, .aload_n 0, 1), (17, .iload 4, 2), (19, .invokevirtual 220, 3), (22, .ifCond .eq 49, 3), (25, .aload_n 0, 1), (26, .iload 4, 2), (28, .invokevirtual 166, 3), (31, .iload_n 1, 1), (32, .if_icmp .ne 39, 3), (35, .aload_n 0, 1), (36, .getfield 44, 3), (39, .bipush 8, 2), (41, .aload_n 0, 1), (42, .iload 4, 2), (44, .invokevirtual 202, 3), (47, .imul, 1), (48, .iload_n 2, 1), (49, .iadd, 1), (50, .iaload, 1), (51, .aload_n 0, 1), (52, .getfield 44, 3), (55, .bipush 8, 2), (57, .iload_n 1, 1), (58, .imul, 1), (59, .iload_n 2, 1), (60, .iadd, 1), (61, .iaload, 1), (62, .iconst 1, 1), (63, .isub, 1), (64, .if_icmp .ne 7, 3), (67, .iconst 1, 1), (68, .goto 4, 3), (71, .iconst 0, 1), (72, .istore 5, 2), (74, .iload 5, 2), (76, .ifCond .eq 25, 3), (79, .iload_n 3, 1), (80, .iconst (-1), 1), (81, .if_icmp .eq 15, 3), (84, .iload 4, 2), (86, .invokestatic 199, 3), (89, .iload_n 3, 1), (90, .invokestatic 199, 3), (93, .if_icmp .ge 8, 3), (96, .iload 4, 2), (98, .goto 4, 3), (101, .iload_n 3, 1), (102, .istore_n 3, 1), (103, .iinc 4 1, 3), (106, .goto (-101), 3), (109, .iload_n 3, 1), (110, .ireturn, 1)]
theorem zX11_leastUnseen : (tX11_leastUnseen.all fun q => decide (decode cX11_leastUnseen q.1 = .ok q.2)) = true := by decide +kernel
def tX11_letter : List (Nat × Instr × Nat) := [(0, .aload_n 0, 1), (1, .iload_n 1, 1), (2, .iload_n 2, 1), (3, .iload_n 3, 1), (4, .iload 4, 2), (6, .invokevirtual 252, 3), (9, .ifCond .eq 8, 3), (12, .iload 5, 2), (14, .ifCond .ge 6, 3), (17, .bipush (-2), 2), (19, .ireturn, 1), (20, .aload_n 0, 1), (21, .iload_n 1, 1), (22, .iload_n 2, 1), (23, .iload_n 3, 1), (24, .iload 4, 2), (26, .invokevirtual 246, 3), (29, .aload_n 0, 1), (30, .getfield 235, 3), (33, .ifCond .eq 12, 3), (36, .iload 5, 2), (38, .aload_n 0, 1), (39, .getfield 232, 3), (42, .if_icmp .lt 5, 3), (45, .iconst (-1), 1), (46, .ireturn, 1), (47, .iload_n 1, 1), (48, .istore 6, 2), (50, .iconst 0, 1), (51, .istore 7, 2), (53, .iconst (-1), 1), (54, .istore 8, 2), (56, .iconst 0, 1), (57, .istore 9, 2), (59, .iload 9, 2), (61, .iload 5, 2), (63, .if_icmp .gt 75, 3), (66, .iload 7, 2), (68, .aload_n 0, 1), (69, .getfield 223, 3), (72, .if_icmp .ge 17, 3), (75, .aload_n 0, 1), (76, .aload_n 0, 1), (77, .getfield 51, 3), (80, .iload 7, 2), (82, .iaload, 1), (83, .invokevirtual 166, 3), (86, .goto 4, 3), (89, .iload_n 3, 1), (90, .istore 10, 2), (92, .iload 6, 2), (94, .iload 10, 2), (96, .if_icmp .ne 18, 3), (99, .aload_n 0, 1), (100, .getfield 51, 3), (103, .iload 7, 2), (105, .iaload, 1), (106, .istore 8, 2), (108, .iinc 7 1, 3), (111, .goto 13, 3), (114, .aload_n 0, 1), (115, .iload 6, 2), (117, .iload 10, 2), (119, .invokevirtual 267, 3), (122, .istore 8, 2), (124, .aload_n 0, 1), (125, .iload 8, 2), (127, .invokevirtual 202, 3), (130, .istore 6, 2), (132, .iinc 9 1, 3), (135, .goto (-76), 3), (138, .iload 8, 2), (140, .invokestatic 199, 3), (143, .ireturn, 1)]
theorem zX11_letter : (tX11_letter.all fun q => decide (decode cX11_letter q.1 = .ok q.2)) = true := by decide +kernel
def tX11_findErrands : List (Nat × Instr × Nat) := [(0, .aload_n 0, 1), (1, .invokevirtual 157, 3), (4, .pop, 1), (5, .iconst 0, 1), (6, .istore_n 2, 1), (7, .iload_n 2, 1), (8, .bipush 96, 2), (10, .if_icmp .ge 30, 3), (13, .aload_n 0, 1), (14, .getfield 54, 3), (17, .iload_n 2, 1), (18, .iload_n 2, 1), (19, .bipush 8, 2), (21, .irem, 1), (22, .iload_n 1, 1), (23, .if_icmp .ne 7, 3), (26, .iconst 0, 1), (27, .goto 6, 3), (30, .sipush 1000, 3), (33, .iastore, 1), (34, .iinc 2 1, 3), (37, .goto (-30), 3), (40, .iconst 1, 1), (41, .istore_n 2, 1), (42, .iload_n 2, 1), (43, .ifCond .eq 146, 3), (46, .iconst 0, 1), (47, .istore_n 2, 1), (48, .iconst 0, 1), (49, .istore_n 3, 1), (50, .iload_n 3, 1), (51, .bipush 96, 2), (53, .if_icmp .ge 133, 3), (56, .iconst 0, 1), (57, .istore 4, 2), (59, .iload 4, 2), (61, .iconst 2, 1), (62, .aload_n 0, 1), (63, .getfield 128, 3), (66, .imul, 1), (67, .if_icmp .ge 113, 3), (70, .aload_n 0, 1), (71, .getfield 34, 3), (74, .iload 4, 2), (76, .iconst 2, 1), (77, .idiv, 1), (78, .baload, 1), (79, .ifCond .eq 7, 3), (82, .iconst 1, 1), (83, .goto 4, 3), (86, .iconst 0, 1), (87, .istore 5, 2), (89, .bipush 8, 2), (91, .iload_n 3, 1), (92, .bipush 8, 2), (94, .idiv, 1), (95, .iload 5, 2), (97, .iadd, 1), (98, .imul, 1), (99, .aload_n 0, 1), (100, .iload 4, 2), (102, .invokevirtual 202, 3), (105, .iadd, 1), (106, .istore 6, 2), (108, .aload_n 0, 1), (109, .iload 4, 2), (111, .iconst 2, 1), (112, .idiv, 1), (113, .invokevirtual 172, 3), (116, .ifCond .ne 58, 3), (119, .aload_n 0, 1), (120, .iload 4, 2), (122, .invokevirtual 166, 3), (125, .iload_n 3, 1), (126, .bipush 8, 2), (128, .irem, 1), (129, .if_icmp .ne 45, 3), (132, .iload 6, 2), (134, .bipush 96, 2), (136, .if_icmp .ge 38, 3), (139, .aload_n 0, 1), (140, .getfield 54, 3), (143, .iload_n 3, 1), (144, .iaload, 1), (145, .iconst 1, 1), (146, .iadd, 1), (147, .aload_n 0, 1), (148, .getfield 54, 3), (151, .iload 6, 2), (153, .iaload, 1), (154, .if_icmp .ge 20, 3), (157, .aload_n 0, 1), (158, .getfield 54, 3), (161, .iload 6, 2), (163, .aload_n 0, 1), (164, .getfield 54, 3), (167, .iload_n 3, 1), (168, .iaload, 1), (169, .iconst 1, 1), (170, .iadd, 1), (171, .iastore, 1), (172, .iconst 1, 1), (173, .istore_n 2, 1), (174, .iinc 4 1, 3), (177, .goto (-118), 3), (180, .iinc 3 1, 3), (183, .goto (-133), 3), (186, .goto (-144), 3), (189, .return_, 1)]
theorem zX11_findErrands : (tX11_findErrands.all fun q => decide (decode cX11_findErrands q.1 = .ok q.2)) = true := by decide +kernel
def tX11_stampsTo : List (Nat × Instr × Nat) := [(0, .iconst 0, 1), (1, .istore_n 2, 1), (2, .iload_n 2, 1), (3, .bipush 11, 2), (5, .if_icmp .gt 28, 3), (8, .aload_n 0, 1), (9, .getfield 54, 3), (12, .bipush 8, 2), (14, .iload_n 2, 1), (15, .imul, 1), (16, .iload_n 1, 1), (17, .iadd, 1), (18, .iaload, 1), (19, .sipush 1000, 3), (22, .if_icmp .ge 5, 3), (25, .iload_n 2, 1), (26, .ireturn, 1), (27, .iinc 2 1, 3), (30, .goto (-28), 3), (33, .sipush 1000, 3), (36, .ireturn, 1)]
theorem zX11_stampsTo : (tX11_stampsTo.all fun q => decide (decode cX11_stampsTo q.1 = .ok q.2)) = true := by decide +kernel
def tX11_errandsOf : List (Nat × Instr × Nat) := [(0, .aload_n 0, 1), (1, .iload_n 1, 1), (2, .invokevirtual 270, 3), (5, .iconst 0, 1), (6, .istore 4, 2), (8, .iconst 0, 1), (9, .istore 5, 2), (11, .iload 5, 2), (13, .bipush 8, 2), (15, .if_icmp .ge 55, 3), (18, .iload_n 2, 1), (19, .iload 5, 2), (21, .ishr, 1), (22, .iconst 1, 1), (23, .iand, 1), (24, .iconst 1, 1), (25, .if_icmp .ne 18, 3), (28, .aload_n 0, 1), (29, .iload 5, 2), (31, .invokevirtual 274, 3), (34, .iload 4, 2), (36, .if_icmp .le 7, 3), (39, .iconst 1, 1), (40, .goto 4, 3), (43, .iconst 0, 1), (44, .istore 6, 2), (46, .iload 6, 2), (48, .ifCond .eq 12, 3), (51, .aload_n 0, 1), (52, .iload 5, 2), (54, .invokevirtual 274, 3), (57, .goto 5, 3), (60, .iload 4, 2), (62, .istore 4, 2), (64, .iinc 5 1, 3), (67, .goto (-56), 3), (70, .iload 4, 2), (72, .aload_n 0, 1), (73, .getfield 131, 3), (76, .if_icmp .le 5, 3), (79, .iconst (-1), 1), (80, .ireturn, 1), (81, .iconst 0, 1), (82, .istore 5, 2), (84, .iconst 0, 1), (85, .istore 6, 2), (87, .iload 6, 2), (89, .bipush 8, 2), (91, .if_icmp .ge 91, 3), (94, .sipush 1000, 3), (97, .istore 7, 2), (99, .iconst 0, 1), (100, .istore 8, 2), (102, .iload 8, 2), (104, .iload 4, 2), (106, .if_icmp .gt 47, 3), (109, .aload_n 0, 1), (110, .getfield 54, 3), (113, .bipush 8, 2), (115, .iload 8, 2), (117, .imul, 1), (118, .iload 6, 2), (120, .iadd, 1), (121, .iaload, 1), (122, .iload 7, 2), (124, .if_icmp .ge 19, 3), (127, .aload_n 0, 1), (128, .getfield 54, 3), (131, .bipush 8, 2), (133, .iload 8, 2), (135, .imul, 1), (136, .iload 6, 2), (138, .iadd, 1), (139, .iaload, 1), (140, .goto 5, 3), (143, .iload 7, 2), (145, .istore 7, 2), (147, .iinc 8 1, 3), (150, .goto (-48), 3), (153, .iload 5, 2), (155, .iload_n 2, 1), (156, .iload 6, 2), (158, .ishr, 1), (159, .iconst 1, 1), (160, .iand, 1), (161, .iconst 1, 1), (162, .if_icmp .ne 10, 3), (165, .iconst 2, 1), (166, .iload 7, 2), (168, .imul, 1), (169, .goto 4, 3), (172, .iconst 0, 1), (173, .iadd, 1), (174, .istore 5, 2), (176, .iinc 6 1, 3), (179, .goto (-92), 3), (182, .iload_n 3, 1), (183, .ifCond .ne 8, 3), (186, .iload 4, 2), (188, .goto 5, 3), (191, .iload 5, 2), (193, .ireturn, 1)]
theorem zX11_errandsOf : (tX11_errandsOf.all fun q => decide (decode cX11_errandsOf q.1 = .ok q.2)) = true := by decide +kernel
def tX11_errands : List (Nat × Instr × Nat) := [(0, .iload_n 1, 1), (1, .invokestatic 148, 3), (4, .ifCond .eq 32, 3), (7, .iload_n 2, 1), (8, .i2l, 1), (9, .lconst 0, 1), (10, .ldc2_w 120, 3), (13, .invokestatic 86, 3), (16, .ifCond .eq 20, 3), (19, .iload_n 3, 1), (20, .invokestatic 256, 3), (23, .ifCond .eq 13, 3), (26, .aload_n 0, 1), (27, .iload_n 1, 1), (28, .iload_n 2, 1), (29, .iload_n 3, 1), (30, .invokevirtual 277, 3), (33, .goto 5, 3), (36, .bipush (-2), 2), (38, .ireturn, 1)]
theorem zX11_errands : (tX11_errands.all fun q => decide (decode cX11_errands q.1 = .ok q.2)) = true := by decide +kernel
def tX11_cleanOf : List (Nat × Instr × Nat) := [(0, .aload_n 0, 1), (1, .iload_n 1, 1), (2, .invokevirtual 270, 3), (5, .iconst 0, 1), (6, .istore_n 2, 1), (7, .iconst 0, 1), (8, .istore_n 3, 1), (9, .iload_n 3, 1), (10, .bipush 8, 2), (12, .if_icmp .ge 31, 3), (15, .iload_n 2, 1), (16, .aload_n 0, 1), (17, .iload_n 3, 1), (18, .invokevirtual 274, 3), (21, .aload_n 0, 1), (22, .getfield 131, 3), (25, .if_icmp .gt 9, 3), (28, .iconst 1, 1), (29, .iload_n 3, 1), (30, .ishl, 1), (31, .goto 4, 3), (34, .iconst 0, 1), (35, .ior, 1), (36, .istore_n 2, 1), (37, .iinc 3 1, 3), (40, .goto (-31), 3), (43, .iload_n 2, 1), (44, .ireturn, 1)]
theorem zX11_cleanOf : (tX11_cleanOf.all fun q => decide (decode cX11_cleanOf q.1 = .ok q.2)) = true := by decide +kernel
def tX11_clean : List (Nat × Instr × Nat) := [(0, .iload_n 1, 1), (1, .invokestatic 148, 3), (4, .ifCond .eq 11, 3), (7, .aload_n 0, 1), (8, .iload_n 1, 1), (9, .invokevirtual 280, 3), (12, .goto 5, 3), (15, .bipush (-2), 2), (17, .ireturn, 1)]
theorem zX11_clean : (tX11_clean.all fun q => decide (decode cX11_clean q.1 = .ok q.2)) = true := by decide +kernel
def tX11_foundOf : List (Nat × Instr × Nat) := [(0, .aload_n 0, 1), (1, .iconst 0, 1), (2, .iload_n 1, 1), (3, .invokevirtual 196, 3), (6, .aload_n 0, 1), (7, .invokevirtual 226, 3), (10, .aload_n 0, 1), (11, .getfield 41, 3), (14, .iconst 0, 1), (15, .iaload, 1), (16, .istore_n 3, 1), (17, .iload_n 3, 1), (18, .ifCond .ne 7, 3), (21, .sipush 255, 3), (24, .ireturn, 1), (25, .iconst 1, 1), (26, .istore 4, 2), (28, .iconst 0, 1), (29, .istore 5, 2), (31, .iload 5, 2), (33, .iload_n 3, 1), (34, .if_icmp .ge 81, 3), (37, .iload 4, 2), (39, .ifCond .eq 67, 3), (42, .aload_n 0, 1), (43, .aload_n 0, 1), (44, .getfield 38, 3), (47, .iload 5, 2), (49, .iaload, 1), (50, .iconst 2, 1), (51, .idiv, 1), (52, .invokevirtual 172, 3), (55, .ifCond .ne 51, 3), (58, .iload 5, 2), (60, .ifCond .eq 42, 3), (63, .aload_n 0, 1), (64, .getfield 44, 3), (67, .bipush 8, 2), (69, .aload_n 0, 1), (70, .aload_n 0, 1), (71, .getfield 38, 3), (74, .iload 5, 2), (76, .iconst 1, 1), (77, .isub, 1), (78, .iaload, 1), (79, .invokevirtual 202, 3), (82, .imul, 1), (83, .aload_n 0, 1), (84, .aload_n 0, 1), (85, .getfield 38, 3), (88, .iload 5, 2), (90, .iaload, 1), (91, .invokevirtual 166, 3), (94, .iadd, 1), (95, .iaload, 1), (96, .sipush 1000, 3), (99, .if_icmp .ge 7, 3), (102, .iconst 1, 1), (103, .goto 4, 3), (106, .iconst 0, 1), (107, .istore 4, 2), (109, .iinc 5 1, 3), (112, .goto (-81), 3), (115, .iload_n 2, 1), (116, .ifCond .ne 16, 3), (119, .aload_n 0, 1), (120, .aload_n 0, 1), (121, .getfield 38, 3), (124, .iconst 0, 1), (125, .iaload, 1), (126, .invokevirtual 166, 3), (129, .goto 15, 3), (132, .aload_n 0, 1), (133, .aload_n 0, 1), (134, .getfield 38, 3), (137, .iload_n 3, 1), (138, .iconst 1, 1), (139, .isub, 1), (140, .iaload, 1), (141, .invokevirtual 202, 3), (144, .istore 5, 2), (146, .iconst 0, 1), (147, .istore 6, 2), (149, .iconst 0, 1), (150, .istore 7, 2), (152, .iload 7, 2), (154, .bipush 8, 2), (156, .if_icmp .ge 46, 3), (159, .iload 6, 2), (161, .iload 4, 2), (163, .ifCond .eq 29, 3), (166, .aload_n 0, 1), (167, .getfield 44, 3), (170, .bipush 8, 2), (172, .iload 5, 2), (174, .imul, 1), (175, .iload 7, 2), (177, .iadd, 1), (178, .iaload, 1), (179, .sipush 1000, 3), (182, .if_icmp .ge 10, 3), (185, .iconst 1, 1), (186, .iload 7, 2), (188, .ishl, 1), (189, .goto 4, 3), (192, .iconst 0, 1), (193, .ior, 1), (194, .istore 6, 2), (196, .iinc 7 1, 3), (199, .goto (-47), 3), (202, .iload 6, 2), (204, .ireturn, 1)]
theorem zX11_foundOf : (tX11_foundOf.all fun q => decide (decode cX11_foundOf q.1 = .ok q.2)) = true := by decide +kernel
def tX11_found : List (Nat × Instr × Nat) := [(0, .iload_n 1, 1), (1, .invokestatic 193, 3), (4, .ifCond .eq 19, 3), (7, .iload_n 2, 1), (8, .invokestatic 256, 3), (11, .ifCond .eq 12, 3), (14, .aload_n 0, 1), (15, .iload_n 1, 1), (16, .iload_n 2, 1), (17, .invokevirtual 283, 3), (20, .goto 5, 3), (23, .bipush (-2), 2), (25, .ireturn, 1)]
theorem zX11_found : (tX11_found.all fun q => decide (decode cX11_found q.1 = .ok q.2)) = true := by decide +kernel
def tX11_index : List (Nat × Instr × Nat) := [(0, .iload_n 0, 1), (1, .bipush 8, 2), (3, .imul, 1), (4, .iload_n 1, 1), (5, .iadd, 1), (6, .bipush 8, 2), (8, .imul, 1), (9, .iload_n 2, 1), (10, .iadd, 1), (11, .bipush 13, 2), (13, .imul, 1), (14, .iload_n 3, 1), (15, .iadd, 1), (16, .ireturn, 1)]
theorem zX11_index : (tX11_index.all fun q => decide (decode cX11_index q.1 = .ok q.2)) = true := by decide +kernel
def tX11_closedBy : List (Nat × Instr × Nat) := [(0, .aload_n 0, 1), (1, .getfield 34, 3), (4, .iload_n 1, 1), (5, .iconst 2, 1), (6, .idiv, 1), (7, .baload, 1), (8, .ifCond .ne 24, 3), (11, .aload_n 0, 1), (12, .getfield 57, 3), (15, .iload_n 2, 1), (16, .aload_n 0, 1), (17, .iload_n 1, 1), (18, .invokevirtual 202, 3), (21, .iload 4, 2), (23, .iload 5, 2), (25, .iconst 1, 1), (26, .isub, 1), (27, .invokestatic 289, 3), (30, .laload, 1), (31, .lreturn, 1), (32, .lconst 0, 1), (33, .lstore 6, 2), (35, .iconst 0, 1), (36, .istore 8, 2), (38, .iload 8, 2), (40, .iconst 2, 1), (41, .iadd, 1), (42, .iload 5, 2), (44, .if_icmp .gt 58, 3), (47, .lload 6, 2), (49, .aload_n 0, 1), (50, .getfield 57, 3), (53, .iload_n 1, 1), (54, .invokestatic 177, 3), (57, .aload_n 0, 1), (58, .iload_n 1, 1), (59, .invokevirtual 202, 3), (62, .aload_n 0, 1), (63, .iload_n 1, 1), (64, .invokevirtual 202, 3), (67, .iload 8, 2), (69, .invokestatic 289, 3), (72, .laload, 1), (73, .aload_n 0, 1), (74, .getfield 57, 3), (77, .iload_n 2, 1), (78, .iload_n 3, 1), (79, .iload 4, 2), (81, .iload 5, 2), (83, .iconst 2, 1), (84, .isub, 1), (85, .iload 8, 2), (87, .isub, 1), (88, .invokestatic 289, 3), (91, .laload, 1), (92, .lmul, 1), (93, .ladd, 1), (94, .lstore 6, 2), (96, .iinc 8 1, 3), (99, .goto (-61), 3), (102, .lload 6, 2), (104, .lreturn, 1)]
theorem zX11_closedBy : (tX11_closedBy.all fun q => decide (decode cX11_closedBy q.1 = .ok q.2)) = true := by decide +kernel
def tX11_findClosed : List (Nat × Instr × Nat) := [(0, .iconst 0, 1), (1, .istore_n 2, 1), (2, .iload_n 2, 1), (3, .bipush 18, 2), (5, .if_icmp .gt 154, 3), (8, .iconst 0, 1), (9, .istore_n 3, 1), (10, .iload_n 3, 1), (11, .bipush 8, 2), (13, .if_icmp .ge 140, 3), (16, .iconst 0, 1), (17, .istore 4, 2), (19, .iload 4, 2), (21, .bipush 8, 2), (23, .if_icmp .ge 124, 3), (26, .iload_n 1, 1), (27, .ifCond .ne 13, 3), (30, .iload_n 3, 1), (31, .iload 4, 2), (33, .if_icmp .ne 7, 3), (36, .lconst 1, 1), (37, .goto 4, 3), (40, .lconst 0, 1), (41, .lstore 5, 2), (43, .iconst 0, 1), (44, .istore 7, 2), (46, .iload 7, 2), (48, .iconst 2, 1), (49, .aload_n 0, 1), (50, .getfield 128, 3), (53, .imul, 1), (54, .if_icmp .ge 72, 3), (57, .iload_n 1, 1), (58, .ifCond .le 68, 3), (61, .lload 5, 2), (63, .aload_n 0, 1), (64, .iload 7, 2), (66, .invokevirtual 166, 3), (69, .iload_n 3, 1), (70, .if_icmp .ne 46, 3), (73, .aload_n 0, 1), (74, .iload 7, 2), (76, .iconst 2, 1), (77, .idiv, 1), (78, .invokevirtual 172, 3), (81, .ifCond .ne 35, 3), (84, .iload 7, 2), (86, .iload_n 2, 1), (87, .if_icmp .ne 15, 3), (90, .aload_n 0, 1), (91, .getfield 34, 3), (94, .iload 7, 2), (96, .iconst 2, 1), (97, .idiv, 1), (98, .baload, 1), (99, .ifCond .ne 17, 3), (102, .aload_n 0, 1), (103, .iload 7, 2), (105, .iload_n 2, 1), (106, .iload_n 3, 1), (107, .iload 4, 2), (109, .iload_n 1, 1), (110, .invokevirtual 286, 3), (113, .goto 4, 3), (116, .lconst 0, 1), (117, .ladd, 1), (118, .lstore 5, 2), (120, .iinc 7 1, 3), (123, .goto (-77), 3), (126, .aload_n 0, 1), (127, .getfield 57, 3), (130, .iload_n 2, 1), (131, .iload_n 3, 1), (132, .iload 4, 2), (134, .iload_n 1, 1), (135, .invokestatic 289, 3), (138, .lload 5, 2), (140, .lastore, 1), (141, .iinc 4 1, 3), (144, .goto (-125), 3), (147, .iinc 3 1, 3), (150, .goto (-140), 3), (153, .iinc 2 1, 3), (156, .goto (-154), 3), (159, .return_, 1)]
theorem zX11_findClosed : (tX11_findClosed.all fun q => decide (decode cX11_findClosed q.1 = .ok q.2)) = true := by decide +kernel
def tX11_follows : List (Nat × Instr × Nat) := [(0, .iconst 0, 1), (1, .istore 5, 2), (3, .iload 5, 2), (5, .bipush 13, 2), (7, .if_icmp .ge 73, 3), (10, .aload_n 0, 1), (11, .getfield 63, 3), (14, .iload 5, 2), (16, .lconst 0, 1), (17, .lastore, 1), (18, .iconst 0, 1), (19, .istore 6, 2), (21, .iload 6, 2), (23, .iload 4, 2), (25, .iadd, 1), (26, .iload 5, 2), (28, .if_icmp .gt 46, 3), (31, .aload_n 0, 1), (32, .getfield 63, 3), (35, .iload 5, 2), (37, .dup2, 1), (38, .laload, 1), (39, .aload_n 0, 1), (40, .getfield 60, 3), (43, .iload 6, 2), (45, .laload, 1), (46, .aload_n 0, 1), (47, .getfield 57, 3), (50, .iload_n 1, 1), (51, .iload_n 2, 1), (52, .iload_n 3, 1), (53, .iload 5, 2), (55, .iload 4, 2), (57, .isub, 1), (58, .iload 6, 2), (60, .isub, 1), (61, .invokestatic 289, 3), (64, .laload, 1), (65, .lmul, 1), (66, .ladd, 1), (67, .lastore, 1), (68, .iinc 6 1, 3), (71, .goto (-50), 3), (74, .iinc 5 1, 3), (77, .goto (-74), 3), (80, .iconst 0, 1), (81, .istore 5, 2), (83, .iload 5, 2), (85, .bipush 13, 2), (87, .if_icmp .ge 23, 3), (90, .aload_n 0, 1), (91, .getfield 60, 3), (94, .iload 5, 2), (96, .aload_n 0, 1), (97, .getfield 63, 3), (100, .iload 5, 2), (102, .laload, 1), (103, .lastore, 1), (104, .iinc 5 1, 3), (107, .goto (-24), 3), (110, .return_, 1)]
theorem zX11_follows : (tX11_follows.all fun q => decide (decode cX11_follows q.1 = .ok q.2)) = true := by decide +kernel
def tX11_manyOf : List (Nat × Instr × Nat) := [(0, .aload_n 0, 1), (1, .iconst 0, 1), (2, .iload_n 2, 1), (3, .invokevirtual 196, 3), (6, .iconst 0, 1), (7, .istore 5, 2), (9, .iload 5, 2), (11, .bipush 12, 2), (13, .if_icmp .gt 32, 3), (16, .aload_n 0, 1), (17, .iload 5, 2), (19, .invokevirtual 292, 3), (22, .aload_n 0, 1), (23, .getfield 60, 3), (26, .iload 5, 2), (28, .iload 5, 2), (30, .ifCond .ne 7, 3), (33, .lconst 1, 1), (34, .goto 4, 3), (37, .lconst 0, 1), (38, .lastore, 1), (39, .iinc 5 1, 3), (42, .goto (-33), 3), (45, .iload_n 1, 1), (46, .istore 5, 2), (48, .bipush 18, 2), (50, .istore 6, 2), (52, .iconst 0, 1), (53, .istore 7, 2), (55, .iload 7, 2), (57, .aload_n 0, 1), (58, .getfield 41, 3), (61, .iconst 0, 1), (62, .iaload, 1), (63, .if_icmp .ge 61, 3), (66, .aload_n 0, 1), (67, .getfield 38, 3), (70, .iload 7, 2), (72, .iaload, 1), (73, .istore 8, 2), (75, .aload_n 0, 1), (76, .iload 8, 2), (78, .iconst 2, 1), (79, .idiv, 1), (80, .invokevirtual 172, 3), (83, .ifCond .eq 5, 3), (86, .lconst 0, 1), (87, .lreturn, 1), (88, .aload_n 0, 1), (89, .iload 6, 2), (91, .iload 5, 2), (93, .aload_n 0, 1), (94, .iload 8, 2), (96, .invokevirtual 166, 3), (99, .iconst 1, 1), (100, .invokevirtual 295, 3), (103, .aload_n 0, 1), (104, .iload 8, 2), (106, .invokevirtual 202, 3), (109, .istore 5, 2), (111, .iload 8, 2), (113, .invokestatic 177, 3), (116, .istore 6, 2), (118, .iinc 7 1, 3), (121, .goto (-66), 3), (124, .aload_n 0, 1), (125, .iload 6, 2), (127, .iload 5, 2), (129, .iload_n 3, 1), (130, .iconst 0, 1), (131, .invokevirtual 295, 3), (134, .aload_n 0, 1), (135, .getfield 60, 3), (138, .iload 4, 2), (140, .laload, 1), (141, .lreturn, 1)]
theorem zX11_manyOf : (tX11_manyOf.all fun q => decide (decode cX11_manyOf q.1 = .ok q.2)) = true := by decide +kernel
def tX11_many : List (Nat × Instr × Nat) := [(0, .iload_n 1, 1), (1, .invokestatic 148, 3), (4, .ifCond .eq 42, 3), (7, .iload_n 2, 1), (8, .invokestatic 193, 3), (11, .ifCond .eq 35, 3), (14, .iload_n 3, 1), (15, .invokestatic 148, 3), (18, .ifCond .eq 28, 3), (21, .iload 4, 2), (23, .i2l, 1), (24, .lconst 0, 1), (25, .ldc2_w 298, 3), (28, .invokestatic 86, 3), (31, .ifCond .eq 15, 3), (34, .aload_n 0, 1), (35, .iload_n 1, 1), (36, .iload_n 2, 1), (37, .iload_n 3, 1), (38, .iload 4, 2), (40, .invokevirtual 300, 3), (43, .goto 8, 3), (46, .bipush (-2), 2), (48, .invokestatic 263, 3), (51, .lreturn, 1)]
theorem zX11_many : (tX11_many.all fun q => decide (decode cX11_many q.1 = .ok q.2)) = true := by decide +kernel
def tX11_lists : List (Nat × Instr × Nat) := [(0, .aload_n 0, 1), (1, .getfield 304, 3), (4, .bipush 12, 2), (6, .if_icmp .ne 6, 3), (9, .bipush (-4), 2), (11, .ireturn, 1), (12, .iconst 0, 1), (13, .istore_n 2, 1), (14, .iload_n 2, 1), (15, .aload_n 0, 1), (16, .getfield 41, 3), (19, .iconst 0, 1), (20, .iaload, 1), (21, .if_icmp .ge 32, 3), (24, .aload_n 0, 1), (25, .getfield 66, 3), (28, .bipush 60, 2), (30, .aload_n 0, 1), (31, .getfield 304, 3), (34, .imul, 1), (35, .iload_n 2, 1), (36, .iadd, 1), (37, .aload_n 0, 1), (38, .getfield 38, 3), (41, .iload_n 2, 1), (42, .iaload, 1), (43, .invokestatic 199, 3), (46, .iastore, 1), (47, .iinc 2 1, 3), (50, .goto (-36), 3), (53, .aload_n 0, 1), (54, .getfield 69, 3), (57, .aload_n 0, 1), (58, .getfield 304, 3), (61, .aload_n 0, 1), (62, .getfield 41, 3), (65, .iconst 0, 1), (66, .iaload, 1), (67, .iastore, 1), (68, .aload_n 0, 1), (69, .getfield 72, 3), (72, .aload_n 0, 1), (73, .getfield 304, 3), (76, .iload_n 1, 1), (77, .bastore, 1), (78, .aload_n 0, 1), (79, .dup, 1), (80, .getfield 304, 3), (83, .iconst 1, 1), (84, .iadd, 1), (85, .putfield 304, 3), (88, .aload_n 0, 1), (89, .getfield 304, 3), (92, .ireturn, 1)]
theorem zX11_lists : (tX11_lists.all fun q => decide (decode cX11_lists q.1 = .ok q.2)) = true := by decide +kernel
def tX11_list : List (Nat × Instr × Nat) := [(0, .iload_n 1, 1), (1, .invokestatic 193, 3), (4, .ifCond .eq 10, 3), (7, .iload_n 2, 1), (8, .invokestatic 256, 3), (11, .ifCond .ne 6, 3), (14, .bipush (-2), 2), (16, .ireturn, 1), (17, .aload_n 0, 1), (18, .iconst 0, 1), (19, .iload_n 1, 1), (20, .invokevirtual 196, 3), (23, .aload_n 0, 1), (24, .iload_n 2, 1), (25, .iconst 1, 1), (26, .if_icmp .ne 7, 3), (29, .iconst 1, 1), (30, .goto 4, 3), (33, .iconst 0, 1), (34, .invokevirtual 307, 3), (37, .ireturn, 1)]
theorem zX11_list : (tX11_list.all fun q => decide (decode cX11_list q.1 = .ok q.2)) = true := by decide +kernel
def tX11_read : List (Nat × Instr × Nat) := [(0, .iload_n 1, 1), (1, .invokestatic 98, 3), (4, .ifCond .ne 6, 3), (7, .bipush (-2), 2), (9, .ireturn, 1), (10, .aload_n 0, 1), (11, .getfield 7, 3), (14, .iload_n 1, 1), (15, .iaload, 1), (16, .ifCond .ge 9, 3), (19, .aload_n 0, 1), (20, .iconst 1, 1), (21, .invokevirtual 104, 3), (24, .ireturn, 1), (25, .aload_n 0, 1), (26, .iconst 0, 1), (27, .iconst 0, 1), (28, .invokevirtual 196, 3), (31, .iconst 0, 1), (32, .istore_n 2, 1), (33, .iconst 0, 1), (34, .istore_n 3, 1), (35, .iload_n 3, 1), (36, .aload_n 0, 1), (37, .getfield 13, 3), (40, .iload_n 1, 1), (41, .iaload, 1), (42, .if_icmp .gt 79, 3), (45, .iload_n 3, 1), (46, .aload_n 0, 1), (47, .getfield 13, 3), (50, .iload_n 1, 1), (51, .iaload, 1), (52, .if_icmp .ge 21, 3), (55, .aload_n 0, 1), (56, .aload_n 0, 1), (57, .getfield 16, 3), (60, .bipush 60, 2), (62, .iload_n 1, 1), (63, .imul, 1), (64, .iload_n 3, 1), (65, .iadd, 1), (66, .iaload, 1), (67, .invokevirtual 160, 3), (70, .goto 4, 3), (73, .iconst (-1), 1), (74, .istore 4, 2), (76, .iload 4, 2), (78, .iconst (-1), 1), (79, .if_icmp .eq 13, 3), (82, .aload_n 0, 1), (83, .iconst 0, 1), (84, .iload 4, 2), (86, .invokevirtual 189, 3), (89, .goto 26, 3), (92, .iload_n 2, 1), (93, .aload_n 0, 1), (94, .iconst 1, 1), (95, .invokevirtual 307, 3), (98, .ifCond .le 7, 3), (101, .iconst 1, 1), (102, .goto 4, 3), (105, .iconst 0, 1), (106, .iadd, 1), (107, .istore_n 2, 1), (108, .aload_n 0, 1), (109, .getfield 41, 3), (112, .iconst 0, 1), (113, .iconst 0, 1), (114, .iastore, 1), (115, .iinc 3 1, 3), (118, .goto (-83), 3), (121, .iload_n 2, 1), (122, .ireturn, 1)]
theorem zX11_read : (tX11_read.all fun q => decide (decode cX11_read q.1 = .ok q.2)) = true := by decide +kernel
def tX11_unlist : List (Nat × Instr × Nat) := [(0, .aload_n 0, 1), (1, .getfield 304, 3), (4, .ifCond .ne 6, 3), (7, .bipush (-3), 2), (9, .ireturn, 1), (10, .aload_n 0, 1), (11, .dup, 1), (12, .getfield 304, 3), (15, .iconst 1, 1), (16, .isub, 1), (17, .putfield 304, 3), (20, .aload_n 0, 1), (21, .getfield 304, 3), (24, .ireturn, 1)]
theorem zX11_unlist : (tX11_unlist.all fun q => decide (decode cX11_unlist q.1 = .ok q.2)) = true := by decide +kernel
def tX11_listedAt : List (Nat × Instr × Nat) := [(0, .iload_n 2, 1), (1, .aload_n 0, 1), (2, .getfield 69, 3), (5, .iload_n 1, 1), (6, .iaload, 1), (7, .if_icmp .ge 17, 3), (10, .aload_n 0, 1), (11, .getfield 66, 3), (14, .bipush 60, 2), (16, .iload_n 1, 1), (17, .imul, 1), (18, .iload_n 2, 1), (19, .iadd, 1), (20, .iaload, 1), (21, .goto 4, 3), (24, .iconst (-1), 1), (25, .ireturn, 1)]
theorem zX11_listedAt : (tX11_listedAt.all fun q => decide (decode cX11_listedAt q.1 = .ok q.2)) = true := by decide +kernel
def tX11_listed : List (Nat × Instr × Nat) := [(0, .iload_n 1, 1), (1, .i2l, 1), (2, .lconst 0, 1), (3, .aload_n 0, 1), (4, .getfield 304, 3), (7, .iconst 1, 1), (8, .isub, 1), (9, .i2l, 1), (10, .invokestatic 86, 3), (13, .ifCond .eq 17, 3), (16, .iload_n 2, 1), (17, .i2l, 1), (18, .ldc2_w 250, 3), (21, .ldc2_w 311, 3), (24, .invokestatic 86, 3), (27, .ifCond .ne 6, 3), (30, .bipush (-2), 2), (32, .ireturn, 1), (33, .iload_n 2, 1), (34, .iconst (-1), 1), (35, .if_icmp .ne 12, 3), (38, .aload_n 0, 1), (39, .getfield 69, 3), (42, .iload_n 1, 1), (43, .iaload, 1), (44, .goto 9, 3), (47, .aload_n 0, 1), (48, .iload_n 1, 1), (49, .iload_n 2, 1), (50, .invokevirtual 313, 3), (53, .ireturn, 1)]
theorem zX11_listed : (tX11_listed.all fun q => decide (decode cX11_listed q.1 = .ok q.2)) = true := by decide +kernel
def tX11_letsBy : List (Nat × Instr × Nat) := [(0, .iconst 0, 1), (1, .istore_n 2, 1), (2, .iload_n 2, 1), (3, .aload_n 0, 1), (4, .getfield 304, 3), (7, .if_icmp .ge 74, 3), (10, .aload_n 0, 1), (11, .getfield 72, 3), (14, .iload_n 2, 1), (15, .baload, 1), (16, .istore_n 3, 1), (17, .iconst 0, 1), (18, .istore 4, 2), (20, .iload 4, 2), (22, .bipush 11, 2), (24, .if_icmp .ge 45, 3), (27, .iload_n 3, 1), (28, .ifCond .eq 41, 3), (31, .iload_n 1, 1), (32, .iload 4, 2), (34, .ishr, 1), (35, .iconst 1, 1), (36, .iand, 1), (37, .ifCond .eq 20, 3), (40, .aload_n 0, 1), (41, .getfield 75, 3), (44, .iload 4, 2), (46, .iaload, 1), (47, .aload_n 0, 1), (48, .iload_n 2, 1), (49, .iload 4, 2), (51, .invokevirtual 313, 3), (54, .if_icmp .ne 7, 3), (57, .iconst 1, 1), (58, .goto 4, 3), (61, .iconst 0, 1), (62, .istore_n 3, 1), (63, .iinc 4 1, 3), (66, .goto (-46), 3), (69, .iload_n 3, 1), (70, .ifCond .eq 5, 3), (73, .iconst 1, 1), (74, .ireturn, 1), (75, .iinc 2 1, 3), (78, .goto (-76), 3), (81, .iconst 0, 1), (82, .ireturn, 1)]
theorem zX11_letsBy : (tX11_letsBy.all fun q => decide (decode cX11_letsBy q.1 = .ok q.2)) = true := by decide +kernel
def tX11_arePlaces : List (Nat × Instr × Nat) := [(0, .iload_n 0, 1), (1, .i2l, 1), (2, .lconst 0, 1), (3, .ldc2_w 316, 3), (6, .invokestatic 86, 3), (9, .ireturn, 1)]
theorem zX11_arePlaces : (tX11_arePlaces.all fun q => decide (decode cX11_arePlaces q.1 = .ok q.2)) = true := by decide +kernel
def tX11_lets : List (Nat × Instr × Nat) := [(0, .iload_n 1, 1), (1, .invokestatic 193, 3), (4, .ifCond .eq 10, 3), (7, .iload_n 2, 1), (8, .invokestatic 318, 3), (11, .ifCond .ne 6, 3), (14, .bipush (-2), 2), (16, .ireturn, 1), (17, .aload_n 0, 1), (18, .iconst 0, 1), (19, .iload_n 1, 1), (20, .invokevirtual 196, 3), (23, .iconst 0, 1), (24, .istore_n 3, 1), (25, .iload_n 3, 1), (26, .bipush 11, 2), (28, .if_icmp .ge 38, 3), (31, .aload_n 0, 1), (32, .getfield 75, 3), (35, .iload_n 3, 1), (36, .iload_n 3, 1), (37, .aload_n 0, 1), (38, .getfield 41, 3), (41, .iconst 0, 1), (42, .iaload, 1), (43, .if_icmp .ge 15, 3), (46, .aload_n 0, 1), (47, .getfield 38, 3), (50, .iload_n 3, 1), (51, .iaload, 1), (52, .invokestatic 199, 3), (55, .goto 4, 3), (58, .iconst (-1), 1), (59, .iastore, 1), (60, .iinc 3 1, 3), (63, .goto (-38), 3), (66, .aload_n 0, 1), (67, .iload_n 2, 1), (68, .invokevirtual 321, 3), (71, .ifCond .eq 7, 3), (74, .iconst 1, 1), (75, .goto 4, 3), (78, .iconst 0, 1), (79, .ireturn, 1)]
theorem zX11_lets : (tX11_lets.all fun q => decide (decode cX11_lets q.1 = .ok q.2)) = true := by decide +kernel
def tX11_slipsOf : List (Nat × Instr × Nat) := [(0, .iconst 0, 1), (1, .istore_n 2, 1), (2, .iconst 0, 1), (3, .istore_n 3, 1), (4, .iload_n 3, 1), (5, .aload_n 0, 1), (6, .getfield 304, 3), (9, .if_icmp .ge 64, 3), (12, .iconst 0, 1), (13, .istore 4, 2), (15, .iload 4, 2), (17, .bipush 11, 2), (19, .if_icmp .ge 23, 3), (22, .aload_n 0, 1), (23, .getfield 75, 3), (26, .iload 4, 2), (28, .aload_n 0, 1), (29, .iload_n 3, 1), (30, .iload 4, 2), (32, .invokevirtual 313, 3), (35, .iastore, 1), (36, .iinc 4 1, 3), (39, .goto (-24), 3), (42, .iload_n 2, 1), (43, .aload_n 0, 1), (44, .getfield 72, 3), (47, .iload_n 3, 1), (48, .baload, 1), (49, .ifCond .ne 15, 3), (52, .aload_n 0, 1), (53, .iload_n 1, 1), (54, .invokevirtual 321, 3), (57, .ifCond .eq 7, 3), (60, .iconst 1, 1), (61, .goto 4, 3), (64, .iconst 0, 1), (65, .iadd, 1), (66, .istore_n 2, 1), (67, .iinc 3 1, 3), (70, .goto (-66), 3), (73, .iload_n 2, 1), (74, .ireturn, 1)]
theorem zX11_slipsOf : (tX11_slipsOf.all fun q => decide (decode cX11_slipsOf q.1 = .ok q.2)) = true := by decide +kernel
def tX11_slips : List (Nat × Instr × Nat) := [(0, .iload_n 1, 1), (1, .invokestatic 318, 3), (4, .ifCond .eq 11, 3), (7, .aload_n 0, 1), (8, .iload_n 1, 1), (9, .invokevirtual 324, 3), (12, .goto 5, 3), (15, .bipush (-2), 2), (17, .ireturn, 1)]
theorem zX11_slips : (tX11_slips.all fun q => decide (decode cX11_slips q.1 = .ok q.2)) = true := by decide +kernel
def tX11_ones : List (Nat × Instr × Nat) := [(0, .iconst 0, 1), (1, .istore_n 1, 1), (2, .iload_n 0, 1), (3, .istore_n 2, 1), (4, .iload_n 2, 1), (5, .ifCond .eq 15, 3), (8, .iinc 1 1, 3), (11, .iload_n 2, 1), (12, .iload_n 2, 1), (13, .iconst 1, 1), (14, .isub, 1), (15, .iand, 1), (16, .istore_n 2, 1), (17, .goto (-13), 3), (20, .iload_n 1, 1), (21, .ireturn, 1)]
theorem zX11_ones : (tX11_ones.all fun q => decide (decode cX11_ones q.1 = .ok q.2)) = true := by decide +kernel
def tX11_fewestNow : List (Nat × Instr × Nat) := [(0, .iconst (-1), 1), (1, .istore_n 1, 1), (2, .iconst 0, 1), (3, .istore_n 2, 1), (4, .iload_n 2, 1), (5, .sipush 2048, 3), (8, .if_icmp .ge 49, 3), (11, .iload_n 1, 1), (12, .iconst (-1), 1), (13, .if_icmp .eq 14, 3), (16, .iload_n 2, 1), (17, .invokestatic 327, 3), (20, .iload_n 1, 1), (21, .invokestatic 327, 3), (24, .if_icmp .ge 7, 3), (27, .iconst 1, 1), (28, .goto 4, 3), (31, .iconst 0, 1), (32, .istore_n 3, 1), (33, .iload_n 3, 1), (34, .ifCond .eq 15, 3), (37, .aload_n 0, 1), (38, .iload_n 2, 1), (39, .invokevirtual 324, 3), (42, .ifCond .ne 7, 3), (45, .iload_n 2, 1), (46, .goto 4, 3), (49, .iload_n 1, 1), (50, .istore_n 1, 1), (51, .iinc 2 1, 3), (54, .goto (-50), 3), (57, .iload_n 1, 1), (58, .ireturn, 1)]
theorem zX11_fewestNow : (tX11_fewestNow.all fun q => decide (decode cX11_fewestNow q.1 = .ok q.2)) = true := by decide +kernel
def tX11_fewest : List (Nat × Instr × Nat) := [(0, .aload_n 0, 1), (1, .invokevirtual 330, 3), (4, .ireturn, 1)]
theorem zX11_fewest : (tX11_fewest.all fun q => decide (decode cX11_fewest q.1 = .ok q.2)) = true := by decide +kernel
def tX11_joins : List (Nat × Instr × Nat) := [(0, .aload_n 0, 1), (1, .getfield 78, 3), (4, .bipush 8, 2), (6, .iload_n 1, 1), (7, .imul, 1), (8, .iload_n 2, 1), (9, .iadd, 1), (10, .iload_n 1, 1), (11, .iload_n 2, 1), (12, .if_icmp .ne 7, 3), (15, .iconst 0, 1), (16, .goto 4, 3), (19, .iconst 1, 1), (20, .iastore, 1), (21, .return_, 1)]
theorem zX11_joins : (tX11_joins.all fun q => decide (decode cX11_joins q.1 = .ok q.2)) = true := by decide +kernel
def tX11_findFar : List (Nat × Instr × Nat) := [(0, .iconst 0, 1), (1, .istore 4, 2), (3, .iload 4, 2), (5, .bipush 64, 2), (7, .if_icmp .ge 36, 3), (10, .aload_n 0, 1), (11, .getfield 78, 3), (14, .iload 4, 2), (16, .iload 4, 2), (18, .bipush 8, 2), (20, .idiv, 1), (21, .iload 4, 2), (23, .bipush 8, 2), (25, .irem, 1), (26, .if_icmp .ne 7, 3), (29, .iconst 0, 1), (30, .goto 6, 3), (33, .sipush 1000, 3), (36, .iastore, 1), (37, .iinc 4 1, 3), (40, .goto (-37), 3), (43, .iconst 0, 1), (44, .istore 4, 2), (46, .iload 4, 2), (48, .iconst 2, 1), (49, .aload_n 0, 1), (50, .getfield 128, 3), (53, .imul, 1), (54, .if_icmp .ge 44, 3), (57, .aload_n 0, 1), (58, .iload 4, 2), (60, .iconst 2, 1), (61, .idiv, 1), (62, .invokevirtual 172, 3), (65, .ifCond .ne 27, 3), (68, .iload 4, 2), (70, .iconst 2, 1), (71, .idiv, 1), (72, .iload_n 1, 1), (73, .if_icmp .eq 19, 3), (76, .aload_n 0, 1), (77, .aload_n 0, 1), (78, .iload 4, 2), (80, .invokevirtual 166, 3), (83, .aload_n 0, 1), (84, .iload 4, 2), (86, .invokevirtual 202, 3), (89, .invokevirtual 333, 3), (92, .iinc 4 1, 3), (95, .goto (-49), 3), (98, .iload_n 2, 1), (99, .ifCond .lt 15, 3), (102, .aload_n 0, 1), (103, .iload_n 2, 1), (104, .iload_n 3, 1), (105, .invokevirtual 333, 3), (108, .aload_n 0, 1), (109, .iload_n 3, 1), (110, .iload_n 2, 1), (111, .invokevirtual 333, 3), (114, .iconst 0, 1), (115, .istore 4, 2), (117, .iload 4, 2), (119, .bipush 8, 2), (121, .if_icmp .ge 91, 3), (124, .iconst 0, 1), (125, .istore 5, 2), (127, .iload 5, 2), (129, .bipush 64, 2), (131, .if_icmp .ge 75, 3), (134, .aload_n 0, 1), (135, .getfield 78, 3), (138, .bipush 8, 2), (140, .iload 5, 2), (142, .bipush 8, 2), (144, .idiv, 1), (145, .imul, 1), (146, .iload 4, 2), (148, .iadd, 1), (149, .iaload, 1), (150, .aload_n 0, 1), (151, .getfield 78, 3), (154, .bipush 8, 2), (156, .iload 4, 2), (158, .imul, 1), (159, .iload 5, 2), (161, .bipush 8, 2), (163, .irem, 1), (164, .iadd, 1), (165, .iaload, 1), (166, .iadd, 1), (167, .istore 6, 2), (169, .aload_n 0, 1), (170, .getfield 78, 3), (173, .iload 5, 2), (175, .iload 6, 2), (177, .aload_n 0, 1), (178, .getfield 78, 3), (181, .iload 5, 2), (183, .iaload, 1), (184, .if_icmp .ge 8, 3), (187, .iload 6, 2), (189, .goto 10, 3), (192, .aload_n 0, 1), (193, .getfield 78, 3), (196, .iload 5, 2), (198, .iaload, 1), (199, .iastore, 1), (200, .iinc 5 1, 3), (203, .goto (-76), 3), (206, .iinc 4 1, 3), (209, .goto (-92), 3), (212, .return_, 1)]
theorem zX11_findFar : (tX11_findFar.all fun q => decide (decode cX11_findFar q.1 = .ok q.2)) = true := by decide +kernel
def tX11_farOf : List (Nat × Instr × Nat) := [(0, .aload_n 0, 1), (1, .invokevirtual 157, 3), (4, .pop, 1), (5, .aload_n 0, 1), (6, .iconst (-1), 1), (7, .iconst (-1), 1), (8, .iconst (-1), 1), (9, .invokevirtual 336, 3), (12, .aload_n 0, 1), (13, .getfield 78, 3), (16, .bipush 8, 2), (18, .iload_n 1, 1), (19, .imul, 1), (20, .iload_n 2, 1), (21, .iadd, 1), (22, .iaload, 1), (23, .istore_n 3, 1), (24, .iload_n 3, 1), (25, .sipush 1000, 3), (28, .if_icmp .ge 7, 3), (31, .iload_n 3, 1), (32, .goto 4, 3), (35, .iconst (-1), 1), (36, .ireturn, 1)]
theorem zX11_farOf : (tX11_farOf.all fun q => decide (decode cX11_farOf q.1 = .ok q.2)) = true := by decide +kernel
def tX11_far : List (Nat × Instr × Nat) := [(0, .iload_n 1, 1), (1, .invokestatic 148, 3), (4, .ifCond .eq 19, 3), (7, .iload_n 2, 1), (8, .invokestatic 148, 3), (11, .ifCond .eq 12, 3), (14, .aload_n 0, 1), (15, .iload_n 1, 1), (16, .iload_n 2, 1), (17, .invokevirtual 340, 3), (20, .goto 5, 3), (23, .bipush (-2), 2), (25, .ireturn, 1)]
theorem zX11_far : (tX11_far.all fun q => decide (decode cX11_far q.1 = .ok q.2)) = true := by decide +kernel
def tX11_changed : List (Nat × Instr × Nat) := [(0, .aload_n 0, 1), (1, .iconst (-1), 1), (2, .iconst (-1), 1), (3, .iconst (-1), 1), (4, .invokevirtual 336, 3), (7, .iconst 0, 1), (8, .istore 5, 2), (10, .iload 5, 2), (12, .bipush 64, 2), (14, .if_icmp .ge 23, 3), (17, .aload_n 0, 1), (18, .getfield 81, 3), (21, .iload 5, 2), (23, .aload_n 0, 1), (24, .getfield 78, 3), (27, .iload 5, 2), (29, .iaload, 1), (30, .iastore, 1), (31, .iinc 5 1, 3), (34, .goto (-24), 3), (37, .aload_n 0, 1), (38, .iload_n 1, 1), (39, .iload_n 2, 1), (40, .iload_n 3, 1), (41, .invokevirtual 336, 3), (44, .iconst 0, 1), (45, .istore 5, 2), (47, .iconst 0, 1), (48, .istore 6, 2), (50, .iconst 0, 1), (51, .istore 7, 2), (53, .iload 7, 2), (55, .bipush 64, 2), (57, .if_icmp .ge 160, 3), (60, .iload 7, 2), (62, .bipush 8, 2), (64, .idiv, 1), (65, .iload 7, 2), (67, .bipush 8, 2), (69, .irem, 1), (70, .if_icmp .ge 24, 3), (73, .aload_n 0, 1), (74, .getfield 78, 3), (77, .iload 7, 2), (79, .iaload, 1), (80, .aload_n 0, 1), (81, .getfield 81, 3), (84, .iload 7, 2), (86, .iaload, 1), (87, .if_icmp .eq 7, 3), (90, .iconst 1, 1), (91, .goto 4, 3), (94, .iconst 0, 1), (95, .istore 8, 2), (97, .aload_n 0, 1), (98, .getfield 78, 3), (101, .iload 7, 2), (103, .iaload, 1), (104, .aload_n 0, 1), (105, .getfield 81, 3), (108, .iload 7, 2), (110, .iaload, 1), (111, .if_icmp .le 21, 3), (114, .aload_n 0, 1), (115, .getfield 78, 3), (118, .iload 7, 2), (120, .iaload, 1), (121, .aload_n 0, 1), (122, .getfield 81, 3), (125, .iload 7, 2), (127, .iaload, 1), (128, .isub, 1), (129, .goto 18, 3), (132, .aload_n 0, 1), (133, .getfield 81, 3), (136, .iload 7, 2), (138, .iaload, 1), (139, .aload_n 0, 1), (140, .getfield 78, 3), (143, .iload 7, 2), (145, .iaload, 1), (146, .isub, 1), (147, .istore 9, 2), (149, .iload 5, 2), (151, .iload 8, 2), (153, .ifCond .eq 7, 3), (156, .iconst 1, 1), (157, .goto 4, 3), (160, .iconst 0, 1), (161, .iadd, 1), (162, .istore 5, 2), (164, .iload 8, 2), (166, .ifCond .eq 41, 3), (169, .aload_n 0, 1), (170, .getfield 78, 3), (173, .iload 7, 2), (175, .iaload, 1), (176, .sipush 1000, 3), (179, .if_icmp .ge 28, 3), (182, .aload_n 0, 1), (183, .getfield 81, 3), (186, .iload 7, 2), (188, .iaload, 1), (189, .sipush 1000, 3), (192, .if_icmp .ge 15, 3), (195, .iload 9, 2), (197, .iload 6, 2), (199, .if_icmp .le 8, 3), (202, .iload 9, 2), (204, .goto 5, 3), (207, .iload 6, 2), (209, .istore 6, 2), (211, .iinc 7 1, 3), (214, .goto (-161), 3), (217, .iload 4, 2), (219, .ifCond .ne 8, 3), (222, .iload 5, 2), (224, .goto 5, 3), (227, .iload 6, 2), (229, .ireturn, 1)]
theorem zX11_changed : (tX11_changed.all fun q => decide (decode cX11_changed q.1 = .ok q.2)) = true := by decide +kernel
def tX11_without : List (Nat × Instr × Nat) := [(0, .aload_n 0, 1), (1, .invokevirtual 157, 3), (4, .pop, 1), (5, .iload_n 1, 1), (6, .i2l, 1), (7, .lconst 0, 1), (8, .aload_n 0, 1), (9, .getfield 128, 3), (12, .iconst 1, 1), (13, .isub, 1), (14, .i2l, 1), (15, .invokestatic 86, 3), (18, .ifCond .eq 21, 3), (21, .iload_n 2, 1), (22, .invokestatic 256, 3), (25, .ifCond .eq 14, 3), (28, .aload_n 0, 1), (29, .iload_n 1, 1), (30, .iconst (-1), 1), (31, .iconst (-1), 1), (32, .iload_n 2, 1), (33, .invokevirtual 343, 3), (36, .goto 5, 3), (39, .bipush (-2), 2), (41, .ireturn, 1)]
theorem zX11_without : (tX11_without.all fun q => decide (decode cX11_without q.1 = .ok q.2)) = true := by decide +kernel
def tX11_with : List (Nat × Instr × Nat) := [(0, .aload_n 0, 1), (1, .invokevirtual 157, 3), (4, .pop, 1), (5, .iload_n 1, 1), (6, .invokestatic 148, 3), (9, .ifCond .eq 28, 3), (12, .iload_n 2, 1), (13, .invokestatic 148, 3), (16, .ifCond .eq 21, 3), (19, .iload_n 3, 1), (20, .invokestatic 256, 3), (23, .ifCond .eq 14, 3), (26, .aload_n 0, 1), (27, .iconst (-1), 1), (28, .iload_n 1, 1), (29, .iload_n 2, 1), (30, .iload_n 3, 1), (31, .invokevirtual 343, 3), (34, .goto 5, 3), (37, .bipush (-2), 2), (39, .ireturn, 1)]
theorem zX11_with : (tX11_with.all fun q => decide (decode cX11_with q.1 = .ok q.2)) = true := by decide +kernel
def tX11_write : List (Nat × Instr × Nat) := [(0, .iload_n 1, 1), (1, .invokestatic 193, 3), (4, .ifCond .eq 10, 3), (7, .iload_n 2, 1), (8, .invokestatic 98, 3), (11, .ifCond .ne 6, 3), (14, .bipush (-2), 2), (16, .ireturn, 1), (17, .aload_n 0, 1), (18, .getfield 7, 3), (21, .iload_n 2, 1), (22, .iaload, 1), (23, .ifCond .ge 9, 3), (26, .aload_n 0, 1), (27, .iconst 1, 1), (28, .invokevirtual 104, 3), (31, .ireturn, 1), (32, .aload_n 0, 1), (33, .iconst 0, 1), (34, .iload_n 1, 1), (35, .invokevirtual 196, 3), (38, .aload_n 0, 1), (39, .getfield 13, 3), (42, .iload_n 2, 1), (43, .iaload, 1), (44, .aload_n 0, 1), (45, .getfield 41, 3), (48, .iconst 0, 1), (49, .iaload, 1), (50, .if_icmp .ge 12, 3), (53, .aload_n 0, 1), (54, .getfield 13, 3), (57, .iload_n 2, 1), (58, .iaload, 1), (59, .goto 9, 3), (62, .aload_n 0, 1), (63, .getfield 41, 3), (66, .iconst 0, 1), (67, .iaload, 1), (68, .istore_n 3, 1), (69, .iconst 0, 1), (70, .istore 4, 2), (72, .iload 4, 2), (74, .iload_n 3, 1), (75, .if_icmp .ge 40, 3), (78, .aload_n 0, 1), (79, .getfield 16, 3), (82, .bipush 60, 2), (84, .iload_n 2, 1), (85, .imul, 1), (86, .iload 4, 2), (88, .iadd, 1), (89, .aload_n 0, 1), (90, .getfield 7, 3), (93, .iload_n 2, 1), (94, .iaload, 1), (95, .aload_n 0, 1), (96, .getfield 38, 3), (99, .iload 4, 2), (101, .iaload, 1), (102, .invokestatic 199, 3), (105, .invokestatic 112, 3), (108, .iastore, 1), (109, .iinc 4 1, 3), (112, .goto (-40), 3), (115, .iload_n 3, 1), (116, .ireturn, 1)]
theorem zX11_write : (tX11_write.all fun q => decide (decode cX11_write q.1 = .ok q.2)) = true := by decide +kernel
def tX11_count : List (Nat × Instr × Nat) := [(0, .iconst 0, 1), (1, .istore_n 2, 1), (2, .aload_n 0, 1), (3, .invokevirtual 157, 3), (6, .pop, 1), (7, .iload_n 1, 1), (8, .tableswitch 146 0 8 #[52, 57, 92, 92, 92, 92, 101, 106, 141], 52), (60, .aload_n 0, 1), (61, .getfield 128, 3), (64, .ireturn, 1), (65, .iconst 0, 1), (66, .istore_n 3, 1), (67, .iload_n 3, 1), (68, .aload_n 0, 1), (69, .getfield 128, 3), (72, .if_icmp .ge 26, 3), (75, .iload_n 2, 1), (76, .aload_n 0, 1), (77, .getfield 34, 3), (80, .iload_n 3, 1), (81, .baload, 1), (82, .ifCond .eq 7, 3), (85, .iconst 1, 1), (86, .goto 4, 3), (89, .iconst 0, 1), (90, .iadd, 1), (91, .istore_n 2, 1), (92, .iinc 3 1, 3), (95, .goto (-28), 3), (98, .iload_n 2, 1), (99, .ireturn, 1), (100, .aload_n 0, 1), (101, .getfield 25, 3), (104, .iload_n 1, 1), (105, .iconst 2, 1), (106, .isub, 1), (107, .iaload, 1), (108, .ireturn, 1), (109, .aload_n 0, 1), (110, .getfield 304, 3), (113, .ireturn, 1), (114, .iconst 0, 1), (115, .istore_n 3, 1), (116, .iload_n 3, 1), (117, .aload_n 0, 1), (118, .getfield 304, 3), (121, .if_icmp .ge 26, 3), (124, .iload_n 2, 1), (125, .aload_n 0, 1), (126, .getfield 72, 3), (129, .iload_n 3, 1), (130, .baload, 1), (131, .ifCond .eq 7, 3), (134, .iconst 1, 1), (135, .goto 4, 3), (138, .iconst 0, 1), (139, .iadd, 1), (140, .istore_n 2, 1), (141, .iinc 3 1, 3), (144, .goto (-28), 3), (147, .iload_n 2, 1), (148, .ireturn, 1), (149, .aload_n 0, 1), (150, .getfield 92, 3), (153, .ireturn, 1), (154, .bipush (-2), 2), (156, .ireturn, 1)]
theorem zX11_count : (tX11_count.all fun q => decide (decode cX11_count q.1 = .ok q.2)) = true := by decide +kernel
def tX11_digest : List (Nat × Instr × Nat) := [(0, .ldc2_w 346, 3), (3, .lstore_n 1, 1), (4, .iconst 0, 1), (5, .istore_n 3, 1), (6, .iload_n 3, 1), (7, .bipush 8, 2), (9, .if_icmp .ge 22, 3), (12, .ldc2_w 348, 3), (15, .lload_n 1, 1), (16, .lmul, 1), (17, .aload_n 0, 1), (18, .iload_n 3, 1), (19, .invokevirtual 350, 3), (22, .i2l, 1), (23, .ladd, 1), (24, .lstore_n 1, 1), (25, .iinc 3 1, 3), (28, .goto (-22), 3), (31, .iconst 0, 1), (32, .istore_n 3, 1), (33, .iload_n 3, 1), (34, .iconst 4, 1), (35, .if_icmp .ge 22, 3), (38, .ldc2_w 348, 3), (41, .lload_n 1, 1), (42, .lmul, 1), (43, .aload_n 0, 1), (44, .iload_n 3, 1), (45, .invokevirtual 163, 3), (48, .i2l, 1), (49, .ladd, 1), (50, .lstore_n 1, 1), (51, .iinc 3 1, 3), (54, .goto (-21), 3), (57, .ldc2_w 348, 3), (60, .lload_n 1, 1), (61, .lmul, 1), (62, .aload_n 0, 1), (63, .getfield 131, 3), (66, .i2l, 1), (67, .ladd, 1), (68, .lstore_n 1, 1), (69, .iconst 0, 1), (70, .istore_n 3, 1), (71, .iload_n 3, 1), (72, .aload_n 0, 1), (73, .getfield 128, 3), (76, .if_icmp .ge 112, 3), (79, .ldc2_w 348, 3), (82, .lload_n 1, 1), (83, .lmul, 1), (84, .aload_n 0, 1), (85, .getfield 28, 3), (88, .iload_n 3, 1), (89, .iaload, 1), (90, .i2l, 1), (91, .ladd, 1), (92, .lstore_n 1, 1), (93, .ldc2_w 348, 3), (96, .lload_n 1, 1), (97, .lmul, 1), (98, .aload_n 0, 1), (99, .getfield 31, 3), (102, .iload_n 3, 1), (103, .iaload, 1), (104, .i2l, 1), (105, .ladd, 1), (106, .lstore_n 1, 1), (107, .ldc2_w 348, 3), (110, .lload_n 1, 1), (111, .lmul, 1), (112, .aload_n 0, 1), (113, .getfield 34, 3), (116, .iload_n 3, 1), (117, .baload, 1), (118, .ifCond .eq 7, 3), (121, .iconst 1, 1), (122, .goto 4, 3), (125, .iconst 0, 1), (126, .i2l, 1), (127, .ladd, 1), (128, .lstore_n 1, 1), (129, .ldc2_w 348, 3), (132, .lload_n 1, 1), (133, .lmul, 1), (134, .aload_n 0, 1), (135, .iload_n 3, 1), (136, .invokevirtual 172, 3), (139, .ifCond .eq 7, 3), (142, .iconst 1, 1), (143, .goto 4, 3), (146, .iconst 0, 1), (147, .i2l, 1), (148, .ladd, 1), (149, .lstore_n 1, 1), (150, .ldc2_w 348, 3), (153, .lload_n 1, 1), (154, .lmul, 1), (155, .aload_n 0, 1), (156, .iload_n 3, 1), (157, .iconst (-1), 1), (158, .iconst (-1), 1), (159, .iconst 0, 1), (160, .invokevirtual 343, 3), (163, .i2l, 1), (164, .ladd, 1), (165, .lstore_n 1, 1), (166, .ldc2_w 348, 3), (169, .lload_n 1, 1), (170, .lmul, 1), (171, .aload_n 0, 1), (172, .iload_n 3, 1), (173, .iconst (-1), 1), (174, .iconst (-1), 1), (175, .iconst 1, 1), (176, .invokevirtual 343, 3), (179, .i2l, 1), (180, .ladd, 1), (181, .lstore_n 1, 1), (182, .iinc 3 1, 3), (185, .goto (-114), 3), (188, .iconst 1, 1), (189, .istore_n 3, 1), (190, .iload_n 3, 1), (191, .iconst 4, 1), (192, .if_icmp .ge 188, 3), (195, .aload_n 0, 1), (196, .iconst 0, 1), (197, .iload_n 3, 1), (198, .invokevirtual 196, 3), (201, .ldc2_w 348, 3), (204, .lload_n 1, 1), (205, .lmul, 1), (206, .aload_n 0, 1), (207, .getfield 41, 3), (210, .iconst 0, 1), (211, .iaload, 1), (212, .i2l, 1), (213, .ladd, 1), (214, .lstore_n 1, 1), (215, .iconst 0, 1), (216, .istore 4, 2), (218, .iload 4, 2), (220, .aload_n 0, 1), (221, .getfield 41, 3), (224, .iconst 0, 1), (225, .iaload, 1), (226, .if_icmp .ge 27, 3), (229, .ldc2_w 348, 3), (232, .lload_n 1, 1), (233, .lmul, 1), (234, .aload_n 0, 1), (235, .getfield 38, 3), (238, .iload 4, 2), (240, .iaload, 1), (241, .invokestatic 199, 3), (244, .i2l, 1), (245, .ladd, 1), (246, .lstore_n 1, 1), (247, .iinc 4 1, 3), (250, .goto (-32), 3), (253, .iconst 0, 1), (254, .istore 4, 2), (256, .iload 4, 2), (258, .iconst 5, 1), (259, .if_icmp .ge 26, 3), (262, .ldc2_w 348, 3), (265, .lload_n 1, 1), (266, .lmul, 1), (267, .aload_n 0, 1), (268, .iload_n 3, 1), (269, .iconst 0, 1), (270, .iconst 0, 1), (271, .iload 4, 2), (273, .invokevirtual 210, 3), (276, .i2l, 1), (277, .ladd, 1), (278, .lstore_n 1, 1), (279, .iinc 4 1, 3), (282, .goto (-26), 3), (285, .aload_n 0, 1), (286, .iload_n 3, 1), (287, .iconst 0, 1), (288, .iconst 0, 1), (289, .iconst 1, 1), (290, .invokevirtual 210, 3), (293, .istore 4, 2), (295, .ldc2_w 348, 3), (298, .lload_n 1, 1), (299, .lmul, 1), (300, .aload_n 0, 1), (301, .iload_n 3, 1), (302, .iconst 0, 1), (303, .invokevirtual 283, 3), (306, .i2l, 1), (307, .ladd, 1), (308, .lstore_n 1, 1), (309, .ldc2_w 348, 3), (312, .lload_n 1, 1), (313, .lmul, 1), (314, .aload_n 0, 1), (315, .iload_n 3, 1), (316, .iconst 1, 1), (317, .invokevirtual 283, 3), (320, .i2l, 1), (321, .ladd, 1), (322, .lstore_n 1, 1), (323, .ldc2_w 348, 3), (326, .lload_n 1, 1), (327, .lmul, 1), (328, .aload_n 0, 1), (329, .iconst 0, 1), (330, .iconst 0, 1), (331, .iload 4, 2), (333, .iload_n 3, 1), (334, .iconst 0, 1), (335, .invokevirtual 259, 3), (338, .ladd, 1), (339, .lstore_n 1, 1), (340, .ldc2_w 348, 3), (343, .lload_n 1, 1), (344, .lmul, 1), (345, .aload_n 0, 1), (346, .iconst 0, 1), (347, .iconst 0, 1), (348, .iload 4, 2), (350, .iload_n 3, 1), (351, .iconst 1, 1), (352, .invokevirtual 259, 3), (355, .ladd, 1), (356, .lstore_n 1, 1), (357, .ldc2_w 348, 3), (360, .lload_n 1, 1), (361, .lmul, 1), (362, .aload_n 0, 1), (363, .iconst 0, 1), (364, .iload_n 3, 1), (365, .iload 4, 2), (367, .bipush 6, 2), (369, .invokevirtual 300, 3), (372, .ladd, 1), (373, .lstore_n 1, 1), (374, .iinc 3 1, 3), (377, .goto (-187), 3), (380, .ldc2_w 348, 3), (383, .lload_n 1, 1), (384, .lmul, 1), (385, .aload_n 0, 1), (386, .iconst 1, 1), (387, .iconst 2, 1), (388, .invokevirtual 217, 3), (391, .i2l, 1), (392, .ladd, 1), (393, .lstore_n 1, 1), (394, .iconst 0, 1), (395, .istore_n 3, 1), (396, .iload_n 3, 1), (397, .bipush 8, 2), (399, .if_icmp .ge 70, 3), (402, .ldc2_w 348, 3), (405, .lload_n 1, 1), (406, .lmul, 1), (407, .aload_n 0, 1), (408, .iload_n 3, 1), (409, .invokevirtual 280, 3), (412, .i2l, 1), (413, .ladd, 1), (414, .lstore_n 1, 1), (415, .ldc2_w 348, 3), (418, .lload_n 1, 1), (419, .lmul, 1), (420, .aload_n 0, 1), (421, .iconst 0, 1), (422, .iload_n 3, 1), (423, .invokevirtual 340, 3), (426, .i2l, 1), (427, .ladd, 1), (428, .lstore_n 1, 1), (429, .ldc2_w 348, 3), (432, .lload_n 1, 1), (433, .lmul, 1), (434, .aload_n 0, 1), (435, .iconst 0, 1), (436, .iconst 1, 1), (437, .iload_n 3, 1), (438, .ishl, 1), (439, .iconst 0, 1), (440, .invokevirtual 277, 3), (443, .i2l, 1), (444, .ladd, 1), (445, .lstore_n 1, 1), (446, .ldc2_w 348, 3), (449, .lload_n 1, 1), (450, .lmul, 1), (451, .aload_n 0, 1), (452, .iconst 0, 1), (453, .iconst 1, 1), (454, .iload_n 3, 1), (455, .ishl, 1), (456, .iconst 1, 1), (457, .invokevirtual 277, 3), (460, .i2l, 1), (461, .ladd, 1), (462, .lstore_n 1, 1), (463, .iinc 3 1, 3), (466, .goto (-70), 3), (469, .ldc2_w 348, 3), (472, .lload_n 1, 1), (473, .lmul, 1), (474, .aload_n 0, 1), (475, .bipush 7, 2), (477, .invokevirtual 324, 3), (480, .i2l, 1), (481, .ladd, 1), (482, .lstore_n 1, 1), (483, .ldc2_w 348, 3), (486, .lload_n 1, 1), (487, .lmul, 1), (488, .aload_n 0, 1), (489, .invokevirtual 330, 3), (492, .i2l, 1), (493, .ladd, 1), (494, .lreturn, 1)]
theorem zX11_digest : (tX11_digest.all fun q => decide (decode cX11_digest q.1 = .ok q.2)) = true := by decide +kernel
def tL_law : List (Nat × Instr × Nat) := [(0, .new 7, 3), (3, .dup, 1), (4, .invokespecial 9, 3), (7, .astore_n 1, 1), (8, .new 10, 3), (11, .dup, 1), (12, .invokespecial 12, 3), (15, .astore_n 2, 1), (16, .iconst 0, 1), (17, .istore_n 3, 1), (18, .iload_n 3, 1), (19, .aload_n 0, 1), (20, .arraylength, 1), (21, .bipush 6, 2), (23, .isub, 1), (24, .if_icmp .gt 1284, 3), (27, .aload_n 0, 1), (28, .iload_n 3, 1), (29, .iaload, 1), (30, .bipush 63, 2), (32, .iand, 1), (33, .tableswitch 1269 0 32 #[147, 180, 203, 226, 259, 272, 295, 328, 381, 414, 478, 541, 584, 607, 640, 694, 727, 750, 763, 796, 829, 852, 865, 898, 931, 974, 1017, 1040, 1093, 1136, 1199, 1232, 1255], 147), (180, .aload_n 1, 1), (181, .aload_n 0, 1), (182, .iload_n 3, 1), (183, .iconst 1, 1), (184, .iadd, 1), (185, .iaload, 1), (186, .aload_n 0, 1), (187, .iload_n 3, 1), (188, .iconst 2, 1), (189, .iadd, 1), (190, .iaload, 1), (191, .invokevirtual 13, 3), (194, .aload_n 2, 1), (195, .aload_n 0, 1), (196, .iload_n 3, 1), (197, .iconst 1, 1), (198, .iadd, 1), (199, .iaload, 1), (200, .aload_n 0, 1), (201, .iload_n 3, 1), (202, .iconst 2, 1), (203, .iadd, 1), (204, .iaload, 1), (205, .invokevirtual 17, 3), (208, .if_icmp .eq 1094, 3), (211, .iconst 0, 1), (212, .ireturn, 1), (213, .aload_n 1, 1), (214, .aload_n 0, 1), (215, .iload_n 3, 1), (216, .iconst 1, 1), (217, .iadd, 1), (218, .iaload, 1), (219, .invokevirtual 18, 3), (222, .aload_n 2, 1), (223, .aload_n 0, 1), (224, .iload_n 3, 1), (225, .iconst 1, 1), (226, .iadd, 1), (227, .iaload, 1), (228, .invokevirtual 22, 3), (231, .if_icmp .eq 1071, 3), (234, .iconst 0, 1), (235, .ireturn, 1), (236, .aload_n 1, 1), (237, .aload_n 0, 1), (238, .iload_n 3, 1), (239, .iconst 1, 1), (240, .iadd, 1), (241, .iaload, 1), (242, .invokevirtual 23, 3), (245, .aload_n 2, 1), (246, .aload_n 0, 1), (247, .iload_n 3, 1), (248, .iconst 1, 1), (249, .iadd, 1), (250, .iaload, 1), (251, .invokevirtual 26, 3), (254, .if_icmp .eq 1048, 3), (257, .iconst 0, 1), (258, .ireturn, 1), (259, .aload_n 1, 1), (260, .aload_n 0, 1), (261, .iload_n 3, 1), (262, .iconst 1, 1), (263, .iadd, 1), (264, .iaload, 1), (265, .aload_n 0, 1), (266, .iload_n 3, 1), (267, .iconst 2, 1), (268, .iadd, 1), (269, .iaload, 1), (270, .invokevirtual 27, 3), (273, .aload_n 2, 1), (274, .aload_n 0, 1), (275, .iload_n 3, 1), (276, .iconst 1, 1), (277, .iadd, 1), (278, .iaload, 1), (279, .aload_n 0, 1), (280, .iload_n 3, 1), (281, .iconst 2, 1), (282, .iadd, 1), (283, .iaload, 1), (284, .invokevirtual 30, 3), (287, .if_icmp .eq 1015, 3), (290, .iconst 0, 1), (291, .ireturn, 1), (292, .aload_n 1, 1), (293, .invokevirtual 31, 3), (296, .aload_n 2, 1), (297, .invokevirtual 35, 3), (300, .if_icmp .eq 1002, 3), (303, .iconst 0, 1), (304, .ireturn, 1), (305, .aload_n 1, 1), (306, .aload_n 0, 1), (307, .iload_n 3, 1), (308, .iconst 1, 1), (309, .iadd, 1), (310, .iaload, 1), (311, .invokevirtual 36, 3), (314, .aload_n 2, 1), (315, .aload_n 0, 1), (316, .iload_n 3, 1), (317, .iconst 1, 1), (318, .iadd, 1), (319, .iaload, 1), (320, .invokevirtual 39, 3), (323, .if_icmp .eq 979, 3), (326, .iconst 0, 1), (327, .ireturn, 1), (328, .aload_n 1, 1), (329, .aload_n 0, 1), (330, .iload_n 3, 1), (331, .iconst 1, 1), (332, .iadd, 1), (333, .iaload, 1), (334, .aload_n 0, 1), (335, .iload_n 3, 1), (336, .iconst 2, 1), (337, .iadd, 1), (338, .iaload, 1), (339, .invokevirtual 40, 3), (342, .aload_n 2, 1), (343, .aload_n 0, 1), (344, .iload_n 3, 1), (345, .iconst 1, 1), (346, .iadd, 1), (347, .iaload, 1), (348, .aload_n 0, 1), (349, .iload_n 3, 1), (350, .iconst 2, 1), (351, .iadd, 1), (352, .iaload, 1), (353, .invokevirtual 43, 3), (356, .if_icmp .eq 946, 3), (359, .iconst 0, 1), (360, .ireturn, 1), (361, .aload_n 1, 1), (362, .aload_n 0, 1), (363, .iload_n 3, 1), (364, .iconst 1, 1), (365, .iadd, 1), (366, .iaload, 1), (367, .aload_n 0, 1), (368, .iload_n 3, 1), (369, .iconst 2, 1), (370, .iadd, 1), (371, .iaload, 1), (372, .aload_n 0, 1), (373, .iload_n 3, 1), (374, .iconst 3, 1), (375, .iadd, 1), (376, .iaload, 1), (377, .aload_n 0, 1), (378, .iload_n 3, 1), (379, .iconst 4, 1), (380, .iadd, 1), (381, .iaload, 1), (382, .invokevirtual 44, 3), (385, .aload_n 2, 1), (386, .aload_n 0, 1), (387, .iload_n 3, 1), (388, .iconst 1, 1), (389, .iadd, 1), (390, .iaload, 1), (391, .aload_n 0, 1), (392, .iload_n 3, 1), (393, .iconst 2, 1), (394, .iadd, 1), (395, .iaload, 1), (396, .aload_n 0, 1), (397, .iload_n 3, 1), (398, .iconst 3, 1), (399, .iadd, 1), (400, .iaload, 1), (401, .aload_n 0, 1), (402, .iload_n 3, 1), (403, .iconst 4, 1), (404, .iadd, 1), (405, .iaload, 1), (406, .invokevirtual 48, 3), (409, .if_icmp .eq 893, 3), (412, .iconst 0, 1), (413, .ireturn, 1), (414, .aload_n 1, 1), (415, .aload_n 0, 1), (416, .iload_n 3, 1), (417, .iconst 1, 1), (418, .iadd, 1), (419, .iaload, 1), (420, .aload_n 0, 1), (421, .iload_n 3, 1), (422, .iconst 2, 1), (423, .iadd, 1), (424, .iaload, 1), (425, .invokevirtual 49, 3), (428, .aload_n 2, 1), (429, .aload_n 0, 1), (430, .iload_n 3, 1), (431, .iconst 1, 1), (432, .iadd, 1), (433, .iaload, 1), (434, .aload_n 0, 1), (435, .iload_n 3, 1), (436, .iconst 2, 1), (437, .iadd, 1), (438, .iaload, 1), (439, .invokevirtual 52, 3), (442, .if_icmp .eq 860, 3), (445, .iconst 0, 1), (446, .ireturn, 1), (447, .aload_n 1, 1), (448, .aload_n 0, 1), (449, .iload_n 3, 1), (450, .iconst 1, 1), (451, .iadd, 1), (452, .iaload, 1), (453, .aload_n 0, 1), (454, .iload_n 3, 1), (455, .iconst 2, 1), (456, .iadd, 1), (457, .iaload, 1), (458, .aload_n 0, 1), (459, .iload_n 3, 1), (460, .iconst 3, 1), (461, .iadd, 1), (462, .iaload, 1), (463, .aload_n 0, 1), (464, .iload_n 3, 1), (465, .iconst 4, 1), (466, .iadd, 1), (467, .iaload, 1), (468, .aload_n 0, 1), (469, .iload_n 3, 1), (470, .iconst 5, 1), (471, .iadd, 1), (472, .iaload, 1), (473, .invokevirtual 53, 3), (476, .aload_n 2, 1), (477, .aload_n 0, 1), (478, .iload_n 3, 1), (479, .iconst 1, 1), (480, .iadd, 1), (481, .iaload, 1), (482, .aload_n 0, 1), (483, .iload_n 3, 1), (484, .iconst 2, 1), (485, .iadd, 1), (486, .iaload, 1), (487, .aload_n 0, 1), (488, .iload_n 3, 1), (489, .iconst 3, 1), (490, .iadd, 1), (491, .iaload, 1), (492, .aload_n 0, 1), (493, .iload_n 3, 1), (494, .iconst 4, 1), (495, .iadd, 1), (496, .iaload, 1), (497, .aload_n 0, 1), (498, .iload_n 3, 1), (499, .iconst 5, 1), (500, .iadd, 1), (501, .iaload, 1), (502, .invokevirtual 57, 3), (505, .lcmp, 1), (506, .ifCond .eq 796, 3), (509, .iconst 0, 1), (510, .ireturn, 1), (511, .aload_n 1, 1), (512, .aload_n 0, 1), (513, .iload_n 3, 1), (514, .iconst 1, 1), (515, .iadd, 1), (516, .iaload, 1), (517, .aload_n 0, 1), (518, .iload_n 3, 1), (519, .iconst 2, 1), (520, .iadd, 1), (521, .iaload, 1), (522, .aload_n 0, 1), (523, .iload_n 3, 1), (524, .iconst 3, 1), (525, .iadd, 1), (526, .iaload, 1), (527, .aload_n 0, 1), (528, .iload_n 3, 1), (529, .iconst 4, 1), (530, .iadd, 1), (531, .iaload, 1), (532, .aload_n 0, 1), (533, .iload_n 3, 1), (534, .iconst 5, 1), (535, .iadd, 1), (536, .iaload, 1), (537, .invokevirtual 58, 3), (540, .aload_n 2, 1), (541, .aload_n 0, 1), (542, .iload_n 3, 1), (543, .iconst 1, 1), (544, .iadd, 1), (545, .iaload, 1), (546, .aload_n 0, 1), (547, .iload_n 3, 1), (548, .iconst 2, 1), (549, .iadd, 1), (550, .iaload, 1), (551, .aload_n 0, 1), (552, .iload_n 3, 1), (553, .iconst 3, 1), (554, .iadd, 1), (555, .iaload, 1), (556, .aload_n 0, 1), (557, .iload_n 3, 1), (558, .iconst 4, 1), (559, .iadd, 1), (560, .iaload, 1), (561, .aload_n 0, 1), (562, .iload_n 3, 1), (563, .iconst 5, 1), (564, .iadd, 1), (565, .iaload, 1), (566, .invokevirtual 62, 3), (569, .if_icmp .eq 733, 3), (572, .iconst 0, 1), (573, .ireturn, 1), (574, .aload_n 1, 1), (575, .aload_n 0, 1), (576, .iload_n 3, 1), (577, .iconst 1, 1), (578, .iadd, 1), (579, .iaload, 1), (580, .aload_n 0, 1), (581, .iload_n 3, 1), (582, .iconst 2, 1), (583, .iadd, 1), (584, .iaload, 1), (585, .aload_n 0, 1), (586, .iload_n 3, 1), (587, .iconst 3, 1), (588, .iadd, 1), (589, .iaload, 1), (590, .invokevirtual 63, 3), (593, .aload_n 2, 1), (594, .aload_n 0, 1), (595, .iload_n 3, 1), (596, .iconst 1, 1), (597, .iadd, 1), (598, .iaload, 1), (599, .aload_n 0, 1), (600, .iload_n 3, 1), (601, .iconst 2, 1), (602, .iadd, 1), (603, .iaload, 1), (604, .aload_n 0, 1), (605, .iload_n 3, 1), (606, .iconst 3, 1), (607, .iadd, 1), (608, .iaload, 1), (609, .invokevirtual 67, 3), (612, .if_icmp .eq 690, 3), (615, .iconst 0, 1), (616, .ireturn, 1), (617, .aload_n 1, 1), (618, .aload_n 0, 1), (619, .iload_n 3, 1), (620, .iconst 1, 1), (621, .iadd, 1), (622, .iaload, 1), (623, .invokevirtual 68, 3), (626, .aload_n 2, 1), (627, .aload_n 0, 1), (628, .iload_n 3, 1), (629, .iconst 1, 1), (630, .iadd, 1), (631, .iaload, 1), (632, .invokevirtual 71, 3), (635, .if_icmp .eq 667, 3), (638, .iconst 0, 1), (639, .ireturn, 1), (640, .aload_n 1, 1), (641, .aload_n 0, 1), (642, .iload_n 3, 1), (643, .iconst 1, 1), (644, .iadd, 1), (645, .iaload, 1), (646, .aload_n 0, 1), (647, .iload_n 3, 1), (648, .iconst 2, 1), (649, .iadd, 1), (650, .iaload, 1), (651, .invokevirtual 72, 3), (654, .aload_n 2, 1), (655, .aload_n 0, 1), (656, .iload_n 3, 1), (657, .iconst 1, 1), (658, .iadd, 1), (659, .iaload, 1), (660, .aload_n 0, 1), (661, .iload_n 3, 1), (662, .iconst 2, 1), (663, .iadd, 1), (664, .iaload, 1), (665, .invokevirtual 75, 3), (668, .if_icmp .eq 634, 3), (671, .iconst 0, 1), (672, .ireturn, 1), (673, .aload_n 1, 1), (674, .aload_n 0, 1), (675, .iload_n 3, 1), (676, .iconst 1, 1), (677, .iadd, 1), (678, .iaload, 1), (679, .aload_n 0, 1), (680, .iload_n 3, 1), (681, .iconst 2, 1), (682, .iadd, 1), (683, .iaload, 1), (684, .aload_n 0, 1), (685, .iload_n 3, 1), (686, .iconst 3, 1), (687, .iadd, 1), (688, .iaload, 1), (689, .aload_n 0, 1), (690, .iload_n 3, 1), (691, .iconst 4, 1), (692, .iadd, 1), (693, .iaload, 1), (694, .invokevirtual 76, 3), (697, .aload_n 2, 1), (698, .aload_n 0, 1), (699, .iload_n 3, 1), (700, .iconst 1, 1), (701, .iadd, 1), (702, .iaload, 1), (703, .aload_n 0, 1), (704, .iload_n 3, 1), (705, .iconst 2, 1), (706, .iadd, 1), (707, .iaload, 1), (708, .aload_n 0, 1), (709, .iload_n 3, 1), (710, .iconst 3, 1), (711, .iadd, 1), (712, .iaload, 1), (713, .aload_n 0, 1), (714, .iload_n 3, 1), (715, .iconst 4, 1), (716, .iadd, 1), (717, .iaload, 1), (718, .invokevirtual 80, 3), (721, .lcmp, 1), (722, .ifCond .eq 580, 3), (725, .iconst 0, 1), (726, .ireturn, 1), (727, .aload_n 1, 1), (728, .aload_n 0, 1), (729, .iload_n 3, 1), (730, .iconst 1, 1), (731, .iadd, 1), (732, .iaload, 1), (733, .aload_n 0, 1), (734, .iload_n 3, 1), (735, .iconst 2, 1), (736, .iadd, 1), (737, .iaload, 1), (738, .invokevirtual 81, 3), (741, .aload_n 2, 1), (742, .aload_n 0, 1), (743, .iload_n 3, 1), (744, .iconst 1, 1), (745, .iadd, 1), (746, .iaload, 1), (747, .aload_n 0, 1), (748, .iload_n 3, 1), (749, .iconst 2, 1), (750, .iadd, 1), (751, .iaload, 1), (752, .invokevirtual 84, 3), (755, .if_icmp .eq 547, 3), (758, .iconst 0, 1), (759, .ireturn, 1), (760, .aload_n 1, 1), (761, .aload_n 0, 1), (762, .iload_n 3, 1), (763, .iconst 1, 1), (764, .iadd, 1), (765, .iaload, 1), (766, .invokevirtual 85, 3), (769, .aload_n 2, 1), (770, .aload_n 0, 1), (771, .iload_n 3, 1), (772, .iconst 1, 1), (773, .iadd, 1), (774, .iaload, 1), (775, .invokevirtual 88, 3), (778, .if_icmp .eq 524, 3), (781, .iconst 0, 1), (782, .ireturn, 1), (783, .aload_n 1, 1), (784, .invokevirtual 89, 3), (787, .aload_n 2, 1), (788, .invokevirtual 92, 3), (791, .if_icmp .eq 511, 3), (794, .iconst 0, 1), (795, .ireturn, 1), (796, .aload_n 1, 1), (797, .aload_n 0, 1), (798, .iload_n 3, 1), (799, .iconst 1, 1), (800, .iadd, 1), (801, .iaload, 1), (802, .aload_n 0, 1), (803, .iload_n 3, 1), (804, .iconst 2, 1), (805, .iadd, 1), (806, .iaload, 1), (807, .invokevirtual 93, 3), (810, .aload_n 2, 1), (811, .aload_n 0, 1), (812, .iload_n 3, 1), (813, .iconst 1, 1), (814, .iadd, 1), (815, .iaload, 1), (816, .aload_n 0, 1), (817, .iload_n 3, 1), (818, .iconst 2, 1), (819, .iadd, 1), (820, .iaload, 1), (821, .invokevirtual 96, 3), (824, .if_icmp .eq 478, 3), (827, .iconst 0, 1), (828, .ireturn, 1), (829, .aload_n 1, 1), (830, .aload_n 0, 1), (831, .iload_n 3, 1), (832, .iconst 1, 1), (833, .iadd, 1), (834, .iaload, 1), (835, .aload_n 0, 1), (836, .iload_n 3, 1), (837, .iconst 2, 1), (838, .iadd, 1), (839, .iaload, 1), (840, .invokevirtual 97, 3), (843, .aload_n 2, 1), (844, .aload_n 0, 1), (845, .iload_n 3, 1), (846, .iconst 1, 1), (847, .iadd, 1), (848, .iaload, 1), (849, .aload_n 0, 1), (850, .iload_n 3, 1), (851, .iconst 2, 1), (852, .iadd, 1), (853, .iaload, 1), (854, .invokevirtual 100, 3), (857, .if_icmp .eq 445, 3), (860, .iconst 0, 1), (861, .ireturn, 1), (862, .aload_n 1, 1), (863, .aload_n 0, 1), (864, .iload_n 3, 1), (865, .iconst 1, 1), (866, .iadd, 1), (867, .iaload, 1), (868, .invokevirtual 101, 3), (871, .aload_n 2, 1), (872, .aload_n 0, 1), (873, .iload_n 3, 1), (874, .iconst 1, 1), (875, .iadd, 1), (876, .iaload, 1), (877, .invokevirtual 104, 3), (880, .if_icmp .eq 422, 3), (883, .iconst 0, 1), (884, .ireturn, 1), (885, .aload_n 1, 1), (886, .invokevirtual 105, 3), (889, .aload_n 2, 1), (890, .invokevirtual 108, 3), (893, .if_icmp .eq 409, 3), (896, .iconst 0, 1), (897, .ireturn, 1), (898, .aload_n 1, 1), (899, .aload_n 0, 1), (900, .iload_n 3, 1), (901, .iconst 1, 1), (902, .iadd, 1), (903, .iaload, 1), (904, .aload_n 0, 1), (905, .iload_n 3, 1), (906, .iconst 2, 1), (907, .iadd, 1), (908, .iaload, 1), (909, .invokevirtual 109, 3), (912, .aload_n 2, 1), (913, .aload_n 0, 1), (914, .iload_n 3, 1), (915, .iconst 1, 1), (916, .iadd, 1), (917, .iaload, 1), (918, .aload_n 0, 1), (919, .iload_n 3, 1), (920, .iconst 2, 1), (921, .iadd, 1), (922, .iaload, 1), (923, .invokevirtual 112, 3), (926, .if_icmp .eq 376, 3), (929, .iconst 0, 1), (930, .ireturn, 1), (931, .aload_n 1, 1), (932, .aload_n 0, 1), (933, .iload_n 3, 1), (934, .iconst 1, 1), (935, .iadd, 1), (936, .iaload, 1), (937, .aload_n 0, 1), (938, .iload_n 3, 1), (939, .iconst 2, 1), (940, .iadd, 1), (941, .iaload, 1), (942, .invokevirtual 113, 3), (945, .aload_n 2, 1), (946, .aload_n 0, 1), (947, .iload_n 3, 1), (948, .iconst 1, 1), (949, .iadd, 1), (950, .iaload, 1), (951, .aload_n 0, 1), (952, .iload_n 3, 1), (953, .iconst 2, 1), (954, .iadd, 1), (955, .iaload, 1), (956, .invokevirtual 116, 3), (959, .if_icmp .eq 343, 3), (962, .iconst 0, 1), (963, .ireturn, 1), (964, .aload_n 1, 1), (965, .aload_n 0, 1), (966, .iload_n 3, 1), (967, .iconst 1, 1), (968, .iadd, 1), (969, .iaload, 1), (970, .aload_n 0, 1), (971, .iload_n 3, 1), (972, .iconst 2, 1), (973, .iadd, 1), (974, .iaload, 1), (975, .aload_n 0, 1), (976, .iload_n 3, 1), (977, .iconst 3, 1), (978, .iadd, 1), (979, .iaload, 1), (980, .invokevirtual 117, 3), (983, .aload_n 2, 1), (984, .aload_n 0, 1), (985, .iload_n 3, 1), (986, .iconst 1, 1), (987, .iadd, 1), (988, .iaload, 1), (989, .aload_n 0, 1), (990, .iload_n 3, 1), (991, .iconst 2, 1), (992, .iadd, 1), (993, .iaload, 1), (994, .aload_n 0, 1), (995, .iload_n 3, 1), (996, .iconst 3, 1), (997, .iadd, 1), (998, .iaload, 1), (999, .invokevirtual 120, 3), (1002, .if_icmp .eq 300, 3), (1005, .iconst 0, 1), (1006, .ireturn, 1), (1007, .aload_n 1, 1), (1008, .aload_n 0, 1), (1009, .iload_n 3, 1), (1010, .iconst 1, 1), (1011, .iadd, 1), (1012, .iaload, 1), (1013, .aload_n 0, 1), (1014, .iload_n 3, 1), (1015, .iconst 2, 1), (1016, .iadd, 1), (1017, .iaload, 1), (1018, .aload_n 0, 1), (1019, .iload_n 3, 1), (1020, .iconst 3, 1), (1021, .iadd, 1), (1022, .iaload, 1), (1023, .invokevirtual 121, 3), (1026, .aload_n 2, 1), (1027, .aload_n 0, 1), (1028, .iload_n 3, 1), (1029, .iconst 1, 1), (1030, .iadd, 1), (1031, .iaload, 1), (1032, .aload_n 0, 1), (1033, .iload_n 3, 1), (1034, .iconst 2, 1), (1035, .iadd, 1), (1036, .iaload, 1), (1037, .aload_n 0, 1), (1038, .iload_n 3, 1), (1039, .iconst 3, 1), (1040, .iadd, 1), (1041, .iaload, 1), (1042, .invokevirtual 124, 3), (1045, .if_icmp .eq 257, 3), (1048, .iconst 0, 1), (1049, .ireturn, 1), (1050, .aload_n 1, 1), (1051, .aload_n 0, 1), (1052, .iload_n 3, 1), (1053, .iconst 1, 1), (1054, .iadd, 1), (1055, .iaload, 1), (1056, .invokevirtual 125, 3), (1059, .aload_n 2, 1), (1060, .aload_n 0, 1), (1061, .iload_n 3, 1), (1062, .iconst 1, 1), (1063, .iadd, 1), (1064, .iaload, 1), (1065, .invokevirtual 128, 3), (1068, .if_icmp .eq 234, 3), (1071, .iconst 0, 1), (1072, .ireturn, 1), (1073, .aload_n 1, 1), (1074, .aload_n 0, 1), (1075, .iload_n 3, 1), (1076, .iconst 1, 1), (1077, .iadd, 1), (1078, .iaload, 1), (1079, .aload_n 0, 1), (1080, .iload_n 3, 1), (1081, .iconst 2, 1), (1082, .iadd, 1), (1083, .iaload, 1), (1084, .aload_n 0, 1), (1085, .iload_n 3, 1), (1086, .iconst 3, 1), (1087, .iadd, 1), (1088, .iaload, 1), (1089, .aload_n 0, 1), (1090, .iload_n 3, 1), (1091, .iconst 4, 1), (1092, .iadd, 1), (1093, .iaload, 1), (1094, .invokevirtual 129, 3), (1097, .aload_n 2, 1), (1098, .aload_n 0, 1), (1099, .iload_n 3, 1), (1100, .iconst 1, 1), (1101, .iadd, 1), (1102, .iaload, 1), (1103, .aload_n 0, 1), (1104, .iload_n 3, 1), (1105, .iconst 2, 1), (1106, .iadd, 1), (1107, .iaload, 1), (1108, .aload_n 0, 1), (1109, .iload_n 3, 1), (1110, .iconst 3, 1), (1111, .iadd, 1), (1112, .iaload, 1), (1113, .aload_n 0, 1), (1114, .iload_n 3, 1), (1115, .iconst 4, 1), (1116, .iadd, 1), (1117, .iaload, 1), (1118, .invokevirtual 132, 3), (1121, .if_icmp .eq 181, 3), (1124, .iconst 0, 1), (1125, .ireturn, 1), (1126, .aload_n 1, 1), (1127, .aload_n 0, 1), (1128, .iload_n 3, 1), (1129, .iconst 1, 1), (1130, .iadd, 1), (1131, .iaload, 1), (1132, .aload_n 0, 1), (1133, .iload_n 3, 1), (1134, .iconst 2, 1), (1135, .iadd, 1), (1136, .iaload, 1), (1137, .aload_n 0, 1), (1138, .iload_n 3, 1), (1139, .iconst 3, 1), (1140, .iadd, 1), (1141, .iaload, 1), (1142, .invokevirtual 133, 3), (1145, .aload_n 2, 1), (1146, .aload_n 0, 1), (1147, .iload_n 3, 1), (1148, .iconst 1, 1), (1149, .iadd, 1), (1150, .iaload, 1), (1151, .aload_n 0, 1), (1152, .iload_n 3, 1), (1153, .iconst 2, 1), (1154, .iadd, 1), (1155, .iaload, 1), (1156, .aload_n 0, 1), (1157, .iload_n 3, 1), (1158, .iconst 3, 1), (1159, .iadd, 1), (1160, .iaload, 1), (1161, .invokevirtual 136, 3), (1164, .if_icmp .eq 138, 3), (1167, .iconst 0, 1), (1168, .ireturn, 1), (1169, .aload_n 1, 1), (1170, .aload_n 0, 1), (1171, .iload_n 3, 1), (1172, .iconst 1, 1), (1173, .iadd, 1), (1174, .iaload, 1), (1175, .aload_n 0, 1), (1176, .iload_n 3, 1), (1177, .iconst 2, 1), (1178, .iadd, 1), (1179, .iaload, 1), (1180, .aload_n 0, 1), (1181, .iload_n 3, 1), (1182, .iconst 3, 1), (1183, .iadd, 1), (1184, .iaload, 1), (1185, .aload_n 0, 1), (1186, .iload_n 3, 1), (1187, .iconst 4, 1), (1188, .iadd, 1), (1189, .iaload, 1), (1190, .aload_n 0, 1), (1191, .iload_n 3, 1), (1192, .iconst 5, 1), (1193, .iadd, 1), (1194, .iaload, 1), (1195, .invokevirtual 137, 3), (1198, .aload_n 2, 1), (1199, .aload_n 0, 1), (1200, .iload_n 3, 1), (1201, .iconst 1, 1), (1202, .iadd, 1), (1203, .iaload, 1), (1204, .aload_n 0, 1), (1205, .iload_n 3, 1), (1206, .iconst 2, 1), (1207, .iadd, 1), (1208, .iaload, 1), (1209, .aload_n 0, 1), (1210, .iload_n 3, 1), (1211, .iconst 3, 1), (1212, .iadd, 1), (1213, .iaload, 1), (1214, .aload_n 0, 1), (1215, .iload_n 3, 1), (1216, .iconst 4, 1), (1217, .iadd, 1), (1218, .iaload, 1), (1219, .aload_n 0, 1), (1220, .iload_n 3, 1), (1221, .iconst 5, 1), (1222, .iadd, 1), (1223, .iaload, 1), (1224, .invokevirtual 140, 3), (1227, .if_icmp .eq 75, 3), (1230, .iconst 0, 1), (1231, .ireturn, 1), (1232, .aload_n 1, 1), (1233, .aload_n 0, 1), (1234, .iload_n 3, 1), (1235, .iconst 1, 1), (1236, .iadd, 1), (1237, .iaload, 1), (1238, .aload_n 0, 1), (1239, .iload_n 3, 1), (1240, .iconst 2, 1), (1241, .iadd, 1), (1242, .iaload, 1), (1243, .invokevirtual 141, 3), (1246, .aload_n 2, 1), (1247, .aload_n 0, 1), (1248, .iload_n 3, 1), (1249, .iconst 1, 1), (1250, .iadd, 1), (1251, .iaload, 1), (1252, .aload_n 0, 1), (1253, .iload_n 3, 1), (1254, .iconst 2, 1), (1255, .iadd, 1), (1256, .iaload, 1), (1257, .invokevirtual 144, 3), (1260, .if_icmp .eq 42, 3), (1263, .iconst 0, 1), (1264, .ireturn, 1), (1265, .aload_n 1, 1), (1266, .aload_n 0, 1), (1267, .iload_n 3, 1), (1268, .iconst 1, 1), (1269, .iadd, 1), (1270, .iaload, 1), (1271, .invokevirtual 145, 3), (1274, .aload_n 2, 1), (1275, .aload_n 0, 1), (1276, .iload_n 3, 1), (1277, .iconst 1, 1), (1278, .iadd, 1), (1279, .iaload, 1), (1280, .invokevirtual 148, 3), (1283, .if_icmp .eq 19, 3), (1286, .iconst 0, 1), (1287, .ireturn, 1), (1288, .aload_n 1, 1), (1289, .invokevirtual 149, 3), (1292, .aload_n 2, 1), (1293, .invokevirtual 153, 3), (1296, .lcmp, 1), (1297, .ifCond .eq 5, 3), (1300, .iconst 0, 1), (1301, .ireturn, 1), (1302, .iinc 3 6, 3), (1305, .goto (-1287), 3), (1308, .iconst 1, 1), (1309, .ireturn, 1)]
end
section
theorem tbk1 (i : Nat) {w : Cond} (h : tables_1_1[i]? = some w) (g : goodWord w = true) : w ∈ tbG := tb_mem (List.mem_append_right _ (List.mem_append_left _ (List.mem_of_getElem? h))) g
theorem tbk2 (i : Nat) {w : Cond} (h : tables_1_2[i]? = some w) (g : goodWord w = true) : w ∈ tbG := tb_mem (List.mem_append_right _ (List.mem_append_right _ (List.mem_append_left _ (List.mem_of_getElem? h)))) g
theorem tbk3 (i : Nat) {w : Cond} (h : tables_1_3[i]? = some w) (g : goodWord w = true) : w ∈ tbG := tb_mem (List.mem_append_right _ (List.mem_append_right _ (List.mem_append_right _ (List.mem_append_left _ (List.mem_of_getElem? h))))) g
theorem tbk4 (i : Nat) {w : Cond} (h : tables_1_4[i]? = some w) (g : goodWord w = true) : w ∈ tbG := tb_mem (List.mem_append_right _ (List.mem_append_right _ (List.mem_append_right _ (List.mem_append_right _ (List.mem_append_left _ (List.mem_of_getElem? h)))))) g
theorem tbk5 (i : Nat) {w : Cond} (h : tables_1_5[i]? = some w) (g : goodWord w = true) : w ∈ tbG := tb_mem (List.mem_append_right _ (List.mem_append_right _ (List.mem_append_right _ (List.mem_append_right _ (List.mem_append_right _ (List.mem_append_left _ (List.mem_of_getElem? h))))))) g
theorem tbk6 (i : Nat) {w : Cond} (h : tables_1_6[i]? = some w) (g : goodWord w = true) : w ∈ tbG := tb_mem (List.mem_append_right _ (List.mem_append_right _ (List.mem_append_right _ (List.mem_append_right _ (List.mem_append_right _ (List.mem_append_right _ (List.mem_append_left _ (List.mem_of_getElem? h)))))))) g
theorem tbk7 (i : Nat) {w : Cond} (h : tables_1_7[i]? = some w) (g : goodWord w = true) : w ∈ tbG := tb_mem (List.mem_append_right _ (List.mem_append_right _ (List.mem_append_right _ (List.mem_append_right _ (List.mem_append_right _ (List.mem_append_right _ (List.mem_append_right _ (List.mem_of_getElem? h)))))))) g
abbrev MJ7_fill_53178 : MT := (yJ7_fill_53178, cJ7_fill_53178, 4, none, 0, 0)
abbrev MX3_gatesTold : MT := (yX3_gatesTold, cX3_gatesTold, 1, (some .int), 0, 0)
abbrev MX3_from : MT := (yX3_from, cX3_from, 2, (some .int), 0, 0)
abbrev MX3_to : MT := (yX3_to, cX3_to, 2, (some .int), 0, 0)
abbrev MX0_link : MT := (yX0_link, cX0_link, 3, none, 0, 0)
abbrev MX0_layOut : MT := (yX0_layOut, cX0_layOut, 4, none, 1, 23)
abbrev MX0_spread : MT := (yX0_spread, cX0_spread, 9, none, 1, 23)
abbrev MX0_measure : MT := (yX0_measure, cX0_measure, 4, none, 2, 51)
abbrev MX0_measureLinked : MT := (yX0_measureLinked, cX0_measureLinked, 6, none, 2, 51)
abbrev MX10_isTown : MT := (yX10_isTown, cX10_isTown, 1, (some .boolean), 0, 0)
abbrev MX0_measureFrom : MT := (yX0_measureFrom, cX0_measureFrom, 4, none, 2, 51)
abbrev MX0_between : MT := (yX0_between, cX0_between, 3, (some .int), 1, 20)
abbrev MX0_reachedFrom : MT := (yX0_reachedFrom, cX0_reachedFrom, 4, (some .int), 2, 42)
abbrev MX0_pairsUnlike : MT := (yX0_pairsUnlike, cX0_pairsUnlike, 5, (some .int), 2, 42)
abbrev MJ9_abs_0f7a4 : MT := (yJ9_abs_0f7a4, cJ9_abs_0f7a4, 1, (some .int), 0, 0)
abbrev MJ9_max_7cf53 : MT := (yJ9_max_7cf53, cJ9_max_7cf53, 2, (some .int), 0, 0)
abbrev MX0_mostUnlike : MT := (yX0_mostUnlike, cX0_mostUnlike, 7, (some .int), 2, 42)
abbrev MX3_openLanes : MT := (yX3_openLanes, cX3_openLanes, 1, (some .int), 0, 0)
abbrev MX1_setOut : MT := (yX1_setOut, cX1_setOut, 4, none, 3, 74)
abbrev MX3_roomTold : MT := (yX3_roomTold, cX3_roomTold, 1, (some .int), 0, 0)
abbrev MX1_reached : MT := (yX1_reached, cX1_reached, 3, (some .int), 0, 0)
abbrev MX3_letters : MT := (yX3_letters, cX3_letters, 1, (some .int), 0, 0)
abbrev MX3_isOpen : MT := (yX3_isOpen, cX3_isOpen, 2, (some .boolean), 0, 0)
abbrev MX3_isWatched : MT := (yX3_isWatched, cX3_isWatched, 2, (some .boolean), 0, 0)
abbrev MJ9_min_7cf53 : MT := (yJ9_min_7cf53, cJ9_min_7cf53, 2, (some .int), 0, 0)
abbrev MX1_comeNearer : MT := (yX1_comeNearer, cX1_comeNearer, 5, (some .boolean), 2, 42)
abbrev MX1_allowOneMore : MT := (yX1_allowOneMore, cX1_allowOneMore, 4, (some .boolean), 3, 66)
abbrev MX1_fullest : MT := (yX1_fullest, cX1_fullest, 4, (some .int), 4, 97)
abbrev MX1_homely : MT := (yX1_homely, cX1_homely, 4, (some .int), 4, 97)
abbrev MX1_stepsTo : MT := (yX1_stepsTo, cX1_stepsTo, 4, (some .int), 0, 0)
abbrev MX2_onPaper : MT := (yX2_onPaper, cX2_onPaper, 1, (some (.object "StampsCancel$Paper")), 0, 0)
abbrev MX5_size : MT := (yX5_size, cX5_size, 1, (some .int), 0, 0)
abbrev MX2_begin : MT := (yX2_begin, cX2_begin, 2, none, 1, 20)
abbrev MX8_size : MT := (yX8_size, cX8_size, 1, (some .int), 0, 0)
abbrev MX8_at : MT := (yX8_at, cX8_at, 2, (some .int), 0, 0)
abbrev MX3_letterOf : MT := (yX3_letterOf, cX3_letterOf, 2, (some .int), 0, 0)
abbrev MX5_strikes : MT := (yX5_strikes, cX5_strikes, 2, (some .boolean), 0, 0)
abbrev MX2_mayPass : MT := (yX2_mayPass, cX2_mayPass, 2, (some .boolean), 1, 21)
abbrev MX5_stamp : MT := (yX5_stamp, cX5_stamp, 2, none, 1, 21)
abbrev MX2_pass : MT := (yX2_pass, cX2_pass, 2, none, 2, 42)
abbrev MX2_follow : MT := (yX2_follow, cX2_follow, 4, none, 3, 63)
abbrev MX2_verdict : MT := (yX2_verdict, cX2_verdict, 2, (some .int), 1, 20)
abbrev MX3_forget : MT := (yX3_forget, cX3_forget, 1, none, 0, 0)
abbrev MX3_isFigure : MT := (yX3_isFigure, cX3_isFigure, 1, (some .boolean), 0, 0)
abbrev MX3_takeRoom : MT := (yX3_takeRoom, cX3_takeRoom, 6, (some .int), 1, 21)
abbrev MX3_isTownByte : MT := (yX3_isTownByte, cX3_isTownByte, 1, (some .boolean), 0, 0)
abbrev MX3_takeGate : MT := (yX3_takeGate, cX3_takeGate, 4, (some .int), 1, 21)
abbrev MX3_faultOf : MT := (yX3_faultOf, cX3_faultOf, 5, (some .int), 2, 46)
abbrev MX3_learn : MT := (yX3_learn, cX3_learn, 2, none, 3, 70)
abbrev MX3_close : MT := (yX3_close, cX3_close, 3, (some .int), 0, 0)
abbrev MX3_faultPlace : MT := (yX3_faultPlace, cX3_faultPlace, 1, (some .int), 0, 0)
abbrev MJ6_bitCount_0f7a4 : MT := (yJ6_bitCount_0f7a4, cJ6_bitCount_0f7a4, 1, (some .int), 0, 0)
abbrev MX3_gatesWatched : MT := (yX3_gatesWatched, cX3_gatesWatched, 1, (some .int), 1, 20)
abbrev MX3_hasGate : MT := (yX3_hasGate, cX3_hasGate, 2, (some .boolean), 0, 0)
abbrev MX3_openGates : MT := (yX3_openGates, cX3_openGates, 1, (some .int), 0, 0)
abbrev MX4_isFull : MT := (yX4_isFull, cX4_isFull, 1, (some .boolean), 0, 0)
abbrev MX4_size : MT := (yX4_size, cX4_size, 1, (some .int), 0, 0)
abbrev MX5_at : MT := (yX5_at, cX5_at, 2, (some .int), 0, 0)
abbrev MX4_append : MT := (yX4_append, cX4_append, 4, none, 1, 21)
abbrev MX4_dropLast : MT := (yX4_dropLast, cX4_dropLast, 1, none, 1, 21)
abbrev MX4_goodOnes : MT := (yX4_goodOnes, cX4_goodOnes, 3, (some .int), 0, 0)
abbrev MX4_stampsOf : MT := (yX4_stampsOf, cX4_stampsOf, 2, (some .int), 0, 0)
abbrev MX4_stampAt : MT := (yX4_stampAt, cX4_stampAt, 4, (some .int), 0, 0)
abbrev MX4_unlikeAt : MT := (yX4_unlikeAt, cX4_unlikeAt, 5, (some .int), 1, 23)
abbrev MX4_letsBy : MT := (yX4_letsBy, cX4_letsBy, 4, (some .boolean), 2, 47)
abbrev MX4_unlikeOf : MT := (yX4_unlikeOf, cX4_unlikeOf, 5, (some .int), 1, 23)
abbrev MX4_isLetBy : MT := (yX4_isLetBy, cX4_isLetBy, 4, (some .boolean), 2, 47)
abbrev MX4_slipping : MT := (yX4_slipping, cX4_slipping, 4, (some .int), 3, 70)
abbrev MX4_gatherUnlike : MT := (yX4_gatherUnlike, cX4_gatherUnlike, 4, (some .int), 2, 47)
abbrev MX4_partsAll : MT := (yX4_partsAll, cX4_partsAll, 4, (some .boolean), 0, 0)
abbrev MX4_fewestPlaces : MT := (yX4_fewestPlaces, cX4_fewestPlaces, 7, (some .int), 3, 70)
abbrev MX5_empty : MT := (yX5_empty, cX5_empty, 1, none, 0, 0)
abbrev MX5_alike : MT := (yX5_alike, cX5_alike, 4, (some .int), 1, 21)
abbrev MX6_need : MT := (yX6_need, cX6_need, 2, none, 0, 0)
abbrev MX6_plan : MT := (yX6_plan, cX6_plan, 5, none, 3, 74)
abbrev MX6_needAt : MT := (yX6_needAt, cX6_needAt, 2, (some .int), 0, 0)
abbrev MX6_goal : MT := (yX6_goal, cX6_goal, 3, (some .int), 1, 21)
abbrev MX6_origin : MT := (yX6_origin, cX6_origin, 3, (some .int), 1, 21)
abbrev MX6_gatesBetween : MT := (yX6_gatesBetween, cX6_gatesBetween, 6, (some .int), 2, 43)
abbrev MJ7_fill_d0a16 : MT := (yJ7_fill_d0a16, cJ7_fill_d0a16, 5, none, 0, 0)
abbrev MX6_isLane : MT := (yX6_isLane, cX6_isLane, 2, (some .boolean), 1, 21)
abbrev MX6_stepNearer : MT := (yX6_stepNearer, cX6_stepNearer, 6, none, 2, 42)
abbrev MX6_laneWays : MT := (yX6_laneWays, cX6_laneWays, 4, (some .long), 3, 67)
abbrev MX6_ways : MT := (yX6_ways, cX6_ways, 6, (some .long), 4, 90)
abbrev MX6_leastNearer : MT := (yX6_leastNearer, cX6_leastNearer, 6, (some .int), 2, 42)
abbrev MX6_leastLaneLetter : MT := (yX6_leastLaneLetter, cX6_leastLaneLetter, 7, (some .int), 3, 67)
abbrev MX6_leastLetter : MT := (yX6_leastLetter, cX6_leastLetter, 9, (some .int), 4, 93)
abbrev MX6_isChained : MT := (yX6_isChained, cX6_isChained, 1, (some .boolean), 3, 68)
abbrev MX6_starts : MT := (yX6_starts, cX6_starts, 1, (some .int), 4, 88)
abbrev MX6_ends : MT := (yX6_ends, cX6_ends, 1, (some .int), 4, 88)
abbrev MX7_find : MT := (yX7_find, cX7_find, 2, (some .int), 0, 0)
abbrev MX7_latestFinding : MT := (yX7_latestFinding, cX7_latestFinding, 1, (some .int), 0, 0)
abbrev MX7_isLost : MT := (yX7_isLost, cX7_isLost, 2, (some .boolean), 0, 0)
abbrev MX7_size : MT := (yX7_size, cX7_size, 2, (some .int), 0, 0)
abbrev MX7_make : MT := (yX7_make, cX7_make, 4, none, 1, 23)
abbrev MX7_drop : MT := (yX7_drop, cX7_drop, 2, none, 0, 0)
abbrev MX7_findingAt : MT := (yX7_findingAt, cX7_findingAt, 4, (some .int), 1, 21)
abbrev MX7_hasRun : MT := (yX7_hasRun, cX7_hasRun, 4, (some .boolean), 0, 0)
abbrev MX7_findingOfCopy : MT := (yX7_findingOfCopy, cX7_findingOfCopy, 6, (some .int), 1, 23)
abbrev MX7_item : MT := (yX7_item, cX7_item, 3, (some .int), 0, 0)
abbrev MX7_put : MT := (yX7_put, cX7_put, 4, none, 0, 0)
abbrev MX7_move : MT := (yX7_move, cX7_move, 6, none, 1, 40)
abbrev MX8_isFull : MT := (yX8_isFull, cX8_isFull, 1, (some .boolean), 0, 0)
abbrev MX8_append : MT := (yX8_append, cX8_append, 2, none, 0, 0)
abbrev MX8_empty : MT := (yX8_empty, cX8_empty, 1, none, 0, 0)
abbrev MX9_joinTowns : MT := (yX9_joinTowns, cX9_joinTowns, 2, none, 3, 74)
abbrev MX9_goOnByLanes : MT := (yX9_goOnByLanes, cX9_goOnByLanes, 9, none, 1, 21)
abbrev MX9_behindRounds : MT := (yX9_behindRounds, cX9_behindRounds, 14, (some .long), 1, 21)
abbrev MX9_lengthen : MT := (yX9_lengthen, cX9_lengthen, 6, none, 2, 54)
abbrev MX9_countRounds : MT := (yX9_countRounds, cX9_countRounds, 5, none, 3, 79)
abbrev MX9_countFrom : MT := (yX9_countFrom, cX9_countFrom, 5, none, 3, 79)
abbrev MX9_stampForGood : MT := (yX9_stampForGood, cX9_stampForGood, 5, none, 1, 21)
abbrev MX9_number : MT := (yX9_number, cX9_number, 7, (some .long), 4, 103)
abbrev MX10_isText : MT := (yX10_isText, cX10_isText, 1, (some .boolean), 0, 0)
abbrev MX10_learnIfLand : MT := (yX10_learnIfLand, cX10_learnIfLand, 2, none, 4, 91)
abbrev MX10_type : MT := (yX10_type, cX10_type, 3, (some .int), 5, 112)
abbrev MX10_wipe : MT := (yX10_wipe, cX10_wipe, 3, (some .int), 5, 112)
abbrev MX10_wayFault : MT := (yX10_wayFault, cX10_wayFault, 3, (some .int), 1, 21)
abbrev MX10_fault : MT := (yX10_fault, cX10_fault, 2, (some .int), 2, 43)
abbrev MX10_gate : MT := (yX10_gate, cX10_gate, 3, (some .int), 1, 21)
abbrev MX10_room : MT := (yX10_room, cX10_room, 1, (some .int), 1, 20)
abbrev MX10_shut : MT := (yX10_shut, cX10_shut, 2, (some .int), 1, 22)
abbrev MX10_isWay : MT := (yX10_isWay, cX10_isWay, 1, (some .boolean), 0, 0)
abbrev MX10_stampWay : MT := (yX10_stampWay, cX10_stampWay, 5, none, 2, 43)
abbrev MX10_byteOf : MT := (yX10_byteOf, cX10_byteOf, 1, (some .int), 0, 0)
abbrev MX10_paper : MT := (yX10_paper, cX10_paper, 3, (some .int), 3, 67)
abbrev MX10_isWayOrClean : MT := (yX10_isWayOrClean, cX10_isWayOrClean, 1, (some .boolean), 0, 0)
abbrev MX10_judgeWay : MT := (yX10_judgeWay, cX10_judgeWay, 4, none, 4, 86)
abbrev MX10_judged : MT := (yX10_judged, cX10_judged, 5, (some .int), 5, 109)
abbrev MX10_same : MT := (yX10_same, cX10_same, 4, (some .int), 3, 67)
abbrev MX10_areEnds : MT := (yX10_areEnds, cX10_areEnds, 4, (some .boolean), 1, 20)
abbrev MX10_longRefusal : MT := (yX10_longRefusal, cX10_longRefusal, 1, (some .long), 0, 0)
abbrev MX10_planRoute : MT := (yX10_planRoute, cX10_planRoute, 5, (some .int), 4, 98)
abbrev MX10_shortest : MT := (yX10_shortest, cX10_shortest, 7, (some .long), 5, 122)
abbrev MX10_letter : MT := (yX10_letter, cX10_letter, 7, (some .int), 5, 122)
abbrev MX10_errands : MT := (yX10_errands, cX10_errands, 5, (some .int), 5, 120)
abbrev MX10_clean : MT := (yX10_clean, cX10_clean, 2, (some .int), 5, 120)
abbrev MX10_found : MT := (yX10_found, cX10_found, 3, (some .int), 5, 108)
abbrev MX10_many : MT := (yX10_many, cX10_many, 5, (some .long), 5, 129)
abbrev MX10_list : MT := (yX10_list, cX10_list, 3, (some .int), 3, 67)
abbrev MX10_isSheet : MT := (yX10_isSheet, cX10_isSheet, 1, (some .boolean), 0, 0)
abbrev MX10_listIfRoom : MT := (yX10_listIfRoom, cX10_listIfRoom, 2, none, 2, 44)
abbrev MX10_read : MT := (yX10_read, cX10_read, 5, (some .int), 3, 65)
abbrev MX10_unlist : MT := (yX10_unlist, cX10_unlist, 1, (some .int), 2, 41)
abbrev MX10_listed : MT := (yX10_listed, cX10_listed, 3, (some .int), 1, 23)
abbrev MX10_arePlaces : MT := (yX10_arePlaces, cX10_arePlaces, 1, (some .boolean), 0, 0)
abbrev MX10_lets : MT := (yX10_lets, cX10_lets, 3, (some .int), 3, 70)
abbrev MX10_slips : MT := (yX10_slips, cX10_slips, 2, (some .int), 4, 93)
abbrev MX10_fewest : MT := (yX10_fewest, cX10_fewest, 1, (some .int), 4, 96)
abbrev MX10_far : MT := (yX10_far, cX10_far, 3, (some .int), 3, 74)
abbrev MX10_without : MT := (yX10_without, cX10_without, 5, (some .int), 3, 74)
abbrev MX10_with : MT := (yX10_with, cX10_with, 4, (some .int), 3, 76)
abbrev MX10_isForm : MT := (yX10_isForm, cX10_isForm, 1, (some .boolean), 0, 0)
abbrev MX10_sheet : MT := (yX10_sheet, cX10_sheet, 4, (some .int), 2, 46)
abbrev MX10_lose : MT := (yX10_lose, cX10_lose, 3, (some .int), 1, 21)
abbrev MX10_lay : MT := (yX10_lay, cX10_lay, 6, (some .int), 2, 44)
abbrev MX10_get : MT := (yX10_get, cX10_get, 5, (some .int), 2, 44)
abbrev MX10_copy : MT := (yX10_copy, cX10_copy, 7, (some .int), 2, 65)
abbrev MX10_write : MT := (yX10_write, cX10_write, 5, (some .int), 3, 67)
abbrev MX10_count : MT := (yX10_count, cX10_count, 2, (some .int), 2, 40)
abbrev MX10_digestGate : MT := (yX10_digestGate, cX10_digestGate, 7, (some .long), 4, 98)
abbrev MX10_digestWay : MT := (yX10_digestWay, cX10_digestWay, 8, (some .long), 6, 153)
abbrev MX10_digestTown : MT := (yX10_digestTown, cX10_digestTown, 6, (some .long), 6, 144)
abbrev MX10_digest : MT := (yX10_digest, cX10_digest, 4, (some .long), 7, 180)
abbrev MX11_in : MT := (yX11_in, cX11_in, 6, (some .boolean), 0, 0)
abbrev MX11_no : MT := (yX11_no, cX11_no, 1, (some .long), 0, 0)
abbrev MX11_isTwo : MT := (yX11_isTwo, cX11_isTwo, 1, (some .boolean), 1, 25)
abbrev MX11_isTown : MT := (yX11_isTown, cX11_isTown, 1, (some .boolean), 1, 25)
abbrev MX11_met : MT := (yX11_met, cX11_met, 2, (some .int), 0, 0)
abbrev MX11_isSheet : MT := (yX11_isSheet, cX11_isSheet, 1, (some .boolean), 1, 25)
abbrev MX11_sheet : MT := (yX11_sheet, cX11_sheet, 5, (some .int), 2, 45)
abbrev MX11_lose : MT := (yX11_lose, cX11_lose, 2, (some .int), 2, 45)
abbrev MX11_lacks : MT := (yX11_lacks, cX11_lacks, 4, (some .int), 1, 25)
abbrev MX11_cut : MT := (yX11_cut, cX11_cut, 2, (some .int), 0, 0)
abbrev MX11_lay : MT := (yX11_lay, cX11_lay, 6, (some .int), 2, 48)
abbrev MX11_get : MT := (yX11_get, cX11_get, 4, (some .int), 2, 48)
abbrev MX11_copy : MT := (yX11_copy, cX11_copy, 7, (some .int), 2, 45)
abbrev MX11_isText : MT := (yX11_isText, cX11_isText, 1, (some .boolean), 1, 25)
abbrev MX11_isWay : MT := (yX11_isWay, cX11_isWay, 1, (some .boolean), 1, 25)
abbrev MX11_from : MT := (yX11_from, cX11_from, 1, (some .int), 0, 0)
abbrev MX11_type : MT := (yX11_type, cX11_type, 3, (some .int), 2, 45)
abbrev MX11_wipe : MT := (yX11_wipe, cX11_wipe, 3, (some .int), 2, 45)
abbrev MX11_here : MT := (yX11_here, cX11_here, 1, (some .int), 0, 0)
abbrev MX11_clears : MT := (yX11_clears, cX11_clears, 1, none, 0, 0)
abbrev MX11_readsRoom : MT := (yX11_readsRoom, cX11_readsRoom, 3, (some .boolean), 1, 25)
abbrev MX11_readsPart : MT := (yX11_readsPart, cX11_readsPart, 3, (some .boolean), 2, 47)
abbrev MX11_readsLand : MT := (yX11_readsLand, cX11_readsLand, 2, (some .int), 3, 69)
abbrev MX11_letterOf : MT := (yX11_letterOf, cX11_letterOf, 4, (some .int), 1, 25)
abbrev MX11_byteOf : MT := (yX11_byteOf, cX11_byteOf, 1, (some .int), 0, 0)
abbrev MX11_faultOf : MT := (yX11_faultOf, cX11_faultOf, 4, (some .int), 4, 90)
abbrev MX11_fault : MT := (yX11_fault, cX11_fault, 2, (some .int), 5, 113)
abbrev MX11_start : MT := (yX11_start, cX11_start, 2, (some .int), 0, 0)
abbrev MX11_end : MT := (yX11_end, cX11_end, 2, (some .int), 1, 21)
abbrev MX11_back : MT := (yX11_back, cX11_back, 1, (some .int), 0, 0)
abbrev MX11_isShut : MT := (yX11_isShut, cX11_isShut, 2, (some .boolean), 0, 0)
abbrev MX11_gate : MT := (yX11_gate, cX11_gate, 3, (some .int), 4, 90)
abbrev MX11_room : MT := (yX11_room, cX11_room, 1, (some .int), 4, 90)
abbrev MX11_shut : MT := (yX11_shut, cX11_shut, 3, (some .int), 1, 25)
abbrev MX11_stamp : MT := (yX11_stamp, cX11_stamp, 4, none, 1, 20)
abbrev MX11_lengthOf : MT := (yX11_lengthOf, cX11_lengthOf, 2, (some .int), 5, 113)
abbrev MX11_letterAt : MT := (yX11_letterAt, cX11_letterAt, 3, (some .int), 2, 48)
abbrev MX11_findPaper : MT := (yX11_findPaper, cX11_findPaper, 5, none, 6, 134)
abbrev MX11_paper : MT := (yX11_paper, cX11_paper, 3, (some .int), 7, 158)
abbrev MX11_isBegun : MT := (yX11_isBegun, cX11_isBegun, 2, (some .boolean), 1, 25)
abbrev MX11_judgedOf : MT := (yX11_judgedOf, cX11_judgedOf, 13, (some .int), 7, 158)
abbrev MX11_judged : MT := (yX11_judged, cX11_judged, 5, (some .int), 8, 190)
abbrev MX11_alike : MT := (yX11_alike, cX11_alike, 2, (some .int), 0, 0)
abbrev MX11_sameOf : MT := (yX11_sameOf, cX11_sameOf, 3, (some .int), 7, 158)
abbrev MX11_same : MT := (yX11_same, cX11_same, 3, (some .int), 8, 180)
abbrev MX11_isUnseen : MT := (yX11_isUnseen, cX11_isUnseen, 2, (some .boolean), 1, 21)
abbrev MX11_findUnseen : MT := (yX11_findUnseen, cX11_findUnseen, 6, none, 2, 42)
abbrev MX11_findBetween : MT := (yX11_findBetween, cX11_findBetween, 3, none, 1, 21)
abbrev MX11_goesOn : MT := (yX11_goesOn, cX11_goesOn, 3, none, 0, 0)
abbrev MX11_findShortest : MT := (yX11_findShortest, cX11_findShortest, 8, none, 7, 158)
abbrev MX11_shortestOf : MT := (yX11_shortestOf, cX11_shortestOf, 6, (some .long), 8, 185)
abbrev MX11_isAsked : MT := (yX11_isAsked, cX11_isAsked, 5, (some .boolean), 2, 46)
abbrev MX11_shortest : MT := (yX11_shortest, cX11_shortest, 6, (some .long), 9, 210)
abbrev MX11_leastUnseen : MT := (yX11_leastUnseen, cX11_leastUnseen, 6, (some .int), 2, 42)
abbrev MX11_letter : MT := (yX11_letter, cX11_letter, 11, (some .int), 8, 185)
abbrev MX11_findErrands : MT := (yX11_findErrands, cX11_findErrands, 7, none, 4, 90)
abbrev MX11_stampsTo : MT := (yX11_stampsTo, cX11_stampsTo, 3, (some .int), 0, 0)
abbrev MX11_errandsOf : MT := (yX11_errandsOf, cX11_errandsOf, 9, (some .int), 5, 116)
abbrev MX11_errands : MT := (yX11_errands, cX11_errands, 4, (some .int), 6, 144)
abbrev MX11_cleanOf : MT := (yX11_cleanOf, cX11_cleanOf, 4, (some .int), 5, 116)
abbrev MX11_clean : MT := (yX11_clean, cX11_clean, 2, (some .int), 6, 139)
abbrev MX11_foundOf : MT := (yX11_foundOf, cX11_foundOf, 8, (some .int), 7, 158)
abbrev MX11_found : MT := (yX11_found, cX11_found, 3, (some .int), 8, 185)
abbrev MX11_index : MT := (yX11_index, cX11_index, 4, (some .int), 0, 0)
abbrev MX11_closedBy : MT := (yX11_closedBy, cX11_closedBy, 9, (some .long), 2, 42)
abbrev MX11_findClosed : MT := (yX11_findClosed, cX11_findClosed, 8, none, 3, 70)
abbrev MX11_follows : MT := (yX11_follows, cX11_follows, 7, none, 1, 23)
abbrev MX11_manyOf : MT := (yX11_manyOf, cX11_manyOf, 9, (some .long), 7, 158)
abbrev MX11_many : MT := (yX11_many, cX11_many, 5, (some .long), 8, 186)
abbrev MX11_lists : MT := (yX11_lists, cX11_lists, 3, (some .int), 1, 20)
abbrev MX11_list : MT := (yX11_list, cX11_list, 3, (some .int), 7, 158)
abbrev MX11_read : MT := (yX11_read, cX11_read, 5, (some .int), 7, 158)
abbrev MX11_unlist : MT := (yX11_unlist, cX11_unlist, 1, (some .int), 0, 0)
abbrev MX11_listedAt : MT := (yX11_listedAt, cX11_listedAt, 3, (some .int), 0, 0)
abbrev MX11_listed : MT := (yX11_listed, cX11_listed, 3, (some .int), 1, 25)
abbrev MX11_letsBy : MT := (yX11_letsBy, cX11_letsBy, 5, (some .boolean), 1, 22)
abbrev MX11_arePlaces : MT := (yX11_arePlaces, cX11_arePlaces, 1, (some .boolean), 1, 25)
abbrev MX11_lets : MT := (yX11_lets, cX11_lets, 4, (some .int), 7, 158)
abbrev MX11_slipsOf : MT := (yX11_slipsOf, cX11_slipsOf, 5, (some .int), 2, 46)
abbrev MX11_slips : MT := (yX11_slips, cX11_slips, 2, (some .int), 3, 70)
abbrev MX11_ones : MT := (yX11_ones, cX11_ones, 3, (some .int), 0, 0)
abbrev MX11_fewestNow : MT := (yX11_fewestNow, cX11_fewestNow, 4, (some .int), 3, 70)
abbrev MX11_fewest : MT := (yX11_fewest, cX11_fewest, 1, (some .int), 4, 93)
abbrev MX11_joins : MT := (yX11_joins, cX11_joins, 3, none, 0, 0)
abbrev MX11_findFar : MT := (yX11_findFar, cX11_findFar, 7, none, 2, 42)
abbrev MX11_farOf : MT := (yX11_farOf, cX11_farOf, 4, (some .int), 4, 90)
abbrev MX11_far : MT := (yX11_far, cX11_far, 3, (some .int), 5, 113)
abbrev MX11_changed : MT := (yX11_changed, cX11_changed, 10, (some .int), 3, 68)
abbrev MX11_without : MT := (yX11_without, cX11_without, 3, (some .int), 4, 97)
abbrev MX11_with : MT := (yX11_with, cX11_with, 4, (some .int), 4, 97)
abbrev MX11_write : MT := (yX11_write, cX11_write, 5, (some .int), 7, 158)
abbrev MX11_count : MT := (yX11_count, cX11_count, 4, (some .int), 4, 90)
abbrev MX11_digest : MT := (yX11_digest, cX11_digest, 5, (some .long), 9, 210)
theorem iG0 : ∀ w ∈ u_ws RX0 TX0 3, w ∈ tbG := tb_places [110, 112, 114] (by decide +kernel) (by decide +kernel)
theorem ln0 : ∀ o, kd o = 0 → ln o = 3 := by
  have h : ∀ o, o < NC → kd o = 0 → ln o = 3 := by decide +kernel
  exact fun o ho => h o (kd_lt20 (by omega)) ho
theorem iG1 : ∀ w ∈ u_ws RX1 TX1 4, w ∈ tbG := tb_places [149, 151, 153, 155] (by decide +kernel) (by decide +kernel)
theorem ln1 : ∀ o, kd o = 1 → ln o = 4 := by
  have h : ∀ o, o < NC → kd o = 1 → ln o = 4 := by decide +kernel
  exact fun o ho => h o (kd_lt20 (by omega)) ho
theorem iG2 : ∀ w ∈ u_ws RX2 TX2 6, w ∈ tbG := tb_places [80, 82, 84, 86, 88, 90] (by decide +kernel) (by decide +kernel)
theorem ln2 : ∀ o, kd o = 2 → ln o = 6 := by
  have h : ∀ o, o < NC → kd o = 2 → ln o = 6 := by decide +kernel
  exact fun o ho => h o (kd_lt20 (by omega)) ho
theorem iG3 : ∀ w ∈ u_ws RX3 TX3 6, w ∈ tbG := tb_places [37, 39, 41, 43, 45, 47] (by decide +kernel) (by decide +kernel)
theorem ln3 : ∀ o, kd o = 3 → ln o = 6 := by
  have h : ∀ o, o < NC → kd o = 3 → ln o = 6 := by decide +kernel
  exact fun o ho => h o (kd_lt20 (by omega)) ho
theorem iG4 : ∀ w ∈ u_ws RX4 TX4 5, w ∈ tbG := tb_places [201, 203, 205, 207, 209] (by decide +kernel) (by decide +kernel)
theorem ln4 : ∀ o, kd o = 4 → ln o = 5 := by
  have h : ∀ o, o < NC → kd o = 4 → ln o = 5 := by decide +kernel
  exact fun o ho => h o (kd_lt20 (by omega)) ho
theorem iG5 : ∀ w ∈ u_ws RX5 TX5 2, w ∈ tbG := tb_places [61, 63] (by decide +kernel) (by decide +kernel)
theorem ln5 : ∀ o, kd o = 5 → ln o = 2 := by
  have h : ∀ o, o < NC → kd o = 5 → ln o = 2 := by decide +kernel
  exact fun o ho => h o (kd_lt20 (by omega)) ho
theorem iG6 : ∀ w ∈ u_ws RX6 TX6 6, w ∈ tbG := tb_places [123, 125, 127, 129, 131, 133] (by decide +kernel) (by decide +kernel)
theorem ln6 : ∀ o, kd o = 6 → ln o = 6 := by
  have h : ∀ o, o < NC → kd o = 6 → ln o = 6 := by decide +kernel
  exact fun o ho => h o (kd_lt20 (by omega)) ho
theorem iG7 : ∀ w ∈ u_ws RX7 TX7 4, w ∈ tbG := tb_places [228, 230, 232, 234] (by decide +kernel) (by decide +kernel)
theorem ln7 : ∀ o, kd o = 7 → ln o = 4 := by
  have h : ∀ o, o < NC → kd o = 7 → ln o = 4 := by decide +kernel
  exact fun o ho => h o (kd_lt20 (by omega)) ho
theorem iG8 : ∀ w ∈ u_ws RX8 TX8 3, w ∈ tbG := tb_places [248, 250, 252] (by decide +kernel) (by decide +kernel)
theorem ln8 : ∀ o, kd o = 8 → ln o = 3 := by
  have h : ∀ o, o < NC → kd o = 8 → ln o = 3 := by decide +kernel
  exact fun o ho => h o (kd_lt20 (by omega)) ho
theorem iG9 : ∀ w ∈ u_ws RX9 TX9 7, w ∈ tbG := tb_places [175, 177, 179, 181, 183, 185, 187] (by decide +kernel) (by decide +kernel)
theorem ln9 : ∀ o, kd o = 9 → ln o = 7 := by
  have h : ∀ o, o < NC → kd o = 9 → ln o = 7 := by decide +kernel
  exact fun o ho => h o (kd_lt20 (by omega)) ho
theorem iG10 : ∀ w ∈ u_ws RX10 TX10 12, w ∈ tbG := tb_places [267, 269, 271, 273, 275, 277, 279, 281, 283, 285, 287, 289] (by decide +kernel) (by decide +kernel)
theorem ln10 : ∀ o, kd o = 10 → ln o = 12 := by
  have h : ∀ o, o < NC → kd o = 10 → ln o = 12 := by decide +kernel
  exact fun o ho => h o (kd_lt20 (by omega)) ho
theorem iG11 : ∀ w ∈ u_ws RX11 TX11 35, w ∈ tbG := tb_places [1059, 1061, 1063, 1065, 1067, 1069, 1071, 1073, 1075, 1077, 1079, 1081, 1083, 1085, 1087, 1089, 1091, 1093, 1095, 1097, 1099, 1101, 1103, 1105, 1107, 1109, 1111, 1113, 1115, 1117, 1119, 1121, 1123, 1125, 1127] (by decide +kernel) (by decide +kernel)
theorem ln11 : ∀ o, kd o = 11 → ln o = 35 := by
  have h : ∀ o, o < NC → kd o = 11 → ln o = 35 := by decide +kernel
  exact fun o ho => h o (kd_lt20 (by omega)) ho
theorem sb_kd : ∀ o, kd o < 30 → o < NC := fun o h => kd_lt20 h
set_option maxRecDepth 20000 in
theorem fl10_0 : Cond.fieldLink RX10 12 (TX10 0).1 (TX10 0).2.1 (TX10 0).2.2.1 ∈ tbG := tbk2 15 rfl rfl
theorem gf10_0 {E : EV} {M : MT} {Q : Po} {pc o : Nat} {ls : List (Nat × Value)} {st : List Value} {μ : Mem} {r : Nat} (hM : M.1.cls = RX10) (ho : kd o = 10) (hr : rf o 0 = r) (hd : decode M.2.1 pc = .ok (.getfield 12, 3)) (h : Ex E M Q (pc + 3) ls (.ref r :: st) μ) : Ex E M Q pc ls (.ref o :: st) μ :=
  x_get (ci := 10) (k := 0) ho (by decide) rfl iG10 (by decide) (by rw [ln10 o ho]; decide) (by rw [hM]; exact fl10_0) (by unfold fp; rw [ho, hr]; rfl) hd h
set_option maxRecDepth 20000 in
theorem fl10_1 : Cond.fieldLink RX10 18 (TX10 1).1 (TX10 1).2.1 (TX10 1).2.2.1 ∈ tbG := tbk2 16 rfl rfl
theorem gf10_1 {E : EV} {M : MT} {Q : Po} {pc o : Nat} {ls : List (Nat × Value)} {st : List Value} {μ : Mem} {r : Nat} (hM : M.1.cls = RX10) (ho : kd o = 10) (hr : rf o 1 = r) (hd : decode M.2.1 pc = .ok (.getfield 18, 3)) (h : Ex E M Q (pc + 3) ls (.ref r :: st) μ) : Ex E M Q pc ls (.ref o :: st) μ :=
  x_get (ci := 10) (k := 1) ho (by decide) rfl iG10 (by decide) (by rw [ln10 o ho]; decide) (by rw [hM]; exact fl10_1) (by unfold fp; rw [ho, hr]; rfl) hd h
set_option maxRecDepth 20000 in
theorem fl10_2 : Cond.fieldLink RX10 25 (TX10 2).1 (TX10 2).2.1 (TX10 2).2.2.1 ∈ tbG := tbk2 17 rfl rfl
theorem gf10_2 {E : EV} {M : MT} {Q : Po} {pc o : Nat} {ls : List (Nat × Value)} {st : List Value} {μ : Mem} {r : Nat} (hM : M.1.cls = RX10) (ho : kd o = 10) (hr : rf o 2 = r) (hd : decode M.2.1 pc = .ok (.getfield 25, 3)) (h : Ex E M Q (pc + 3) ls (.ref r :: st) μ) : Ex E M Q pc ls (.ref o :: st) μ :=
  x_get (ci := 10) (k := 2) ho (by decide) rfl iG10 (by decide) (by rw [ln10 o ho]; decide) (by rw [hM]; exact fl10_2) (by unfold fp; rw [ho, hr]; rfl) hd h
set_option maxRecDepth 20000 in
theorem fl10_3 : Cond.fieldLink RX10 29 (TX10 3).1 (TX10 3).2.1 (TX10 3).2.2.1 ∈ tbG := tbk2 18 rfl rfl
theorem gf10_3 {E : EV} {M : MT} {Q : Po} {pc o : Nat} {ls : List (Nat × Value)} {st : List Value} {μ : Mem} {r : Nat} (hM : M.1.cls = RX10) (ho : kd o = 10) (hr : rf o 3 = r) (hd : decode M.2.1 pc = .ok (.getfield 29, 3)) (h : Ex E M Q (pc + 3) ls (.ref r :: st) μ) : Ex E M Q pc ls (.ref o :: st) μ :=
  x_get (ci := 10) (k := 3) ho (by decide) rfl iG10 (by decide) (by rw [ln10 o ho]; decide) (by rw [hM]; exact fl10_3) (by unfold fp; rw [ho, hr]; rfl) hd h
set_option maxRecDepth 20000 in
theorem fl10_4 : Cond.fieldLink RX10 37 (TX10 4).1 (TX10 4).2.1 (TX10 4).2.2.1 ∈ tbG := tbk2 19 rfl rfl
theorem gf10_4 {E : EV} {M : MT} {Q : Po} {pc o : Nat} {ls : List (Nat × Value)} {st : List Value} {μ : Mem} {r : Nat} (hM : M.1.cls = RX10) (ho : kd o = 10) (hr : rf o 4 = r) (hd : decode M.2.1 pc = .ok (.getfield 37, 3)) (h : Ex E M Q (pc + 3) ls (.ref r :: st) μ) : Ex E M Q pc ls (.ref o :: st) μ :=
  x_get (ci := 10) (k := 4) ho (by decide) rfl iG10 (by decide) (by rw [ln10 o ho]; decide) (by rw [hM]; exact fl10_4) (by unfold fp; rw [ho, hr]; rfl) hd h
set_option maxRecDepth 20000 in
theorem fl10_5 : Cond.fieldLink RX10 44 (TX10 5).1 (TX10 5).2.1 (TX10 5).2.2.1 ∈ tbG := tbk2 20 rfl rfl
theorem gf10_5 {E : EV} {M : MT} {Q : Po} {pc o : Nat} {ls : List (Nat × Value)} {st : List Value} {μ : Mem} {r : Nat} (hM : M.1.cls = RX10) (ho : kd o = 10) (hr : rf o 5 = r) (hd : decode M.2.1 pc = .ok (.getfield 44, 3)) (h : Ex E M Q (pc + 3) ls (.ref r :: st) μ) : Ex E M Q pc ls (.ref o :: st) μ :=
  x_get (ci := 10) (k := 5) ho (by decide) rfl iG10 (by decide) (by rw [ln10 o ho]; decide) (by rw [hM]; exact fl10_5) (by unfold fp; rw [ho, hr]; rfl) hd h
set_option maxRecDepth 20000 in
theorem fl10_6 : Cond.fieldLink RX10 51 (TX10 6).1 (TX10 6).2.1 (TX10 6).2.2.1 ∈ tbG := tbk2 21 rfl rfl
theorem gf10_6 {E : EV} {M : MT} {Q : Po} {pc o : Nat} {ls : List (Nat × Value)} {st : List Value} {μ : Mem} {r : Nat} (hM : M.1.cls = RX10) (ho : kd o = 10) (hr : rf o 6 = r) (hd : decode M.2.1 pc = .ok (.getfield 51, 3)) (h : Ex E M Q (pc + 3) ls (.ref r :: st) μ) : Ex E M Q pc ls (.ref o :: st) μ :=
  x_get (ci := 10) (k := 6) ho (by decide) rfl iG10 (by decide) (by rw [ln10 o ho]; decide) (by rw [hM]; exact fl10_6) (by unfold fp; rw [ho, hr]; rfl) hd h
set_option maxRecDepth 20000 in
theorem fl10_7 : Cond.fieldLink RX10 58 (TX10 7).1 (TX10 7).2.1 (TX10 7).2.2.1 ∈ tbG := tbk2 22 rfl rfl
theorem gf10_7 {E : EV} {M : MT} {Q : Po} {pc o : Nat} {ls : List (Nat × Value)} {st : List Value} {μ : Mem} {r : Nat} (hM : M.1.cls = RX10) (ho : kd o = 10) (hr : rf o 7 = r) (hd : decode M.2.1 pc = .ok (.getfield 58, 3)) (h : Ex E M Q (pc + 3) ls (.ref r :: st) μ) : Ex E M Q pc ls (.ref o :: st) μ :=
  x_get (ci := 10) (k := 7) ho (by decide) rfl iG10 (by decide) (by rw [ln10 o ho]; decide) (by rw [hM]; exact fl10_7) (by unfold fp; rw [ho, hr]; rfl) hd h
set_option maxRecDepth 20000 in
theorem fl10_8 : Cond.fieldLink RX10 65 (TX10 8).1 (TX10 8).2.1 (TX10 8).2.2.1 ∈ tbG := tbk2 23 rfl rfl
theorem gf10_8 {E : EV} {M : MT} {Q : Po} {pc o : Nat} {ls : List (Nat × Value)} {st : List Value} {μ : Mem} {r : Nat} (hM : M.1.cls = RX10) (ho : kd o = 10) (hr : rf o 8 = r) (hd : decode M.2.1 pc = .ok (.getfield 65, 3)) (h : Ex E M Q (pc + 3) ls (.ref r :: st) μ) : Ex E M Q pc ls (.ref o :: st) μ :=
  x_get (ci := 10) (k := 8) ho (by decide) rfl iG10 (by decide) (by rw [ln10 o ho]; decide) (by rw [hM]; exact fl10_8) (by unfold fp; rw [ho, hr]; rfl) hd h
set_option maxRecDepth 20000 in
theorem fl10_9 : Cond.fieldLink RX10 72 (TX10 9).1 (TX10 9).2.1 (TX10 9).2.2.1 ∈ tbG := tbk2 24 rfl rfl
theorem gf10_9 {E : EV} {M : MT} {Q : Po} {pc o : Nat} {ls : List (Nat × Value)} {st : List Value} {μ : Mem} {r : Nat} (hM : M.1.cls = RX10) (ho : kd o = 10) (hr : rf o 9 = r) (hd : decode M.2.1 pc = .ok (.getfield 72, 3)) (h : Ex E M Q (pc + 3) ls (.ref r :: st) μ) : Ex E M Q pc ls (.ref o :: st) μ :=
  x_get (ci := 10) (k := 9) ho (by decide) rfl iG10 (by decide) (by rw [ln10 o ho]; decide) (by rw [hM]; exact fl10_9) (by unfold fp; rw [ho, hr]; rfl) hd h
set_option maxRecDepth 20000 in
theorem fl10_10 : Cond.fieldLink RX10 76 (TX10 10).1 (TX10 10).2.1 (TX10 10).2.2.1 ∈ tbG := tbk2 25 rfl rfl
theorem gf10_10 {E : EV} {M : MT} {Q : Po} {pc o : Nat} {ls : List (Nat × Value)} {st : List Value} {μ : Mem} {r : Nat} (hM : M.1.cls = RX10) (ho : kd o = 10) (hr : rf o 10 = r) (hd : decode M.2.1 pc = .ok (.getfield 76, 3)) (h : Ex E M Q (pc + 3) ls (.ref r :: st) μ) : Ex E M Q pc ls (.ref o :: st) μ :=
  x_get (ci := 10) (k := 10) ho (by decide) rfl iG10 (by decide) (by rw [ln10 o ho]; decide) (by rw [hM]; exact fl10_10) (by unfold fp; rw [ho, hr]; rfl) hd h
set_option maxRecDepth 20000 in
theorem fl10_11 : Cond.fieldLink RX10 82 (TX10 11).1 (TX10 11).2.1 (TX10 11).2.2.1 ∈ tbG := tbk2 26 rfl rfl
theorem gf10_11 {E : EV} {M : MT} {Q : Po} {pc o : Nat} {ls : List (Nat × Value)} {st : List Value} {μ : Mem} {r : Nat} (hM : M.1.cls = RX10) (ho : kd o = 10) (hr : rf o 11 = r) (hd : decode M.2.1 pc = .ok (.getfield 82, 3)) (h : Ex E M Q (pc + 3) ls (.ref r :: st) μ) : Ex E M Q pc ls (.ref o :: st) μ :=
  x_get (ci := 10) (k := 11) ho (by decide) rfl iG10 (by decide) (by rw [ln10 o ho]; decide) (by rw [hM]; exact fl10_11) (by unfold fp; rw [ho, hr]; rfl) hd h
set_option maxRecDepth 20000 in
theorem fl0_0 : Cond.fieldLink RX0 11 (TX0 0).1 (TX0 0).2.1 (TX0 0).2.2.1 ∈ tbG := tbk1 107 rfl rfl
theorem gf0_0 {E : EV} {M : MT} {Q : Po} {pc o : Nat} {ls : List (Nat × Value)} {st : List Value} {μ : Mem} {r : Nat} (hM : M.1.cls = RX0) (ho : kd o = 0) (hr : rf o 0 = r) (hd : decode M.2.1 pc = .ok (.getfield 11, 3)) (h : Ex E M Q (pc + 3) ls (.ref r :: st) μ) : Ex E M Q pc ls (.ref o :: st) μ :=
  x_get (ci := 0) (k := 0) ho (by decide) rfl iG0 (by decide) (by rw [ln0 o ho]; decide) (by rw [hM]; exact fl0_0) (by unfold fp; rw [ho, hr]; rfl) hd h
set_option maxRecDepth 20000 in
theorem fl0_1 : Cond.fieldLink RX0 16 (TX0 1).1 (TX0 1).2.1 (TX0 1).2.2.1 ∈ tbG := tbk1 108 rfl rfl
theorem gf0_1 {E : EV} {M : MT} {Q : Po} {pc o : Nat} {ls : List (Nat × Value)} {st : List Value} {μ : Mem} {r : Nat} (hM : M.1.cls = RX0) (ho : kd o = 0) (hr : rf o 1 = r) (hd : decode M.2.1 pc = .ok (.getfield 16, 3)) (h : Ex E M Q (pc + 3) ls (.ref r :: st) μ) : Ex E M Q pc ls (.ref o :: st) μ :=
  x_get (ci := 0) (k := 1) ho (by decide) rfl iG0 (by decide) (by rw [ln0 o ho]; decide) (by rw [hM]; exact fl0_1) (by unfold fp; rw [ho, hr]; rfl) hd h
set_option maxRecDepth 20000 in
theorem fl0_2 : Cond.fieldLink RX0 20 (TX0 2).1 (TX0 2).2.1 (TX0 2).2.2.1 ∈ tbG := tbk1 109 rfl rfl
theorem gf0_2 {E : EV} {M : MT} {Q : Po} {pc o : Nat} {ls : List (Nat × Value)} {st : List Value} {μ : Mem} {r : Nat} (hM : M.1.cls = RX0) (ho : kd o = 0) (hr : rf o 2 = r) (hd : decode M.2.1 pc = .ok (.getfield 20, 3)) (h : Ex E M Q (pc + 3) ls (.ref r :: st) μ) : Ex E M Q pc ls (.ref o :: st) μ :=
  x_get (ci := 0) (k := 2) ho (by decide) rfl iG0 (by decide) (by rw [ln0 o ho]; decide) (by rw [hM]; exact fl0_2) (by unfold fp; rw [ho, hr]; rfl) hd h
set_option maxRecDepth 20000 in
theorem fl1_1 : Cond.fieldLink RX1 12 (TX1 1).1 (TX1 1).2.1 (TX1 1).2.2.1 ∈ tbG := tbk1 146 rfl rfl
theorem gf1_1 {E : EV} {M : MT} {Q : Po} {pc o : Nat} {ls : List (Nat × Value)} {st : List Value} {μ : Mem} {r : Nat} (hM : M.1.cls = RX1) (ho : kd o = 1) (hr : rf o 1 = r) (hd : decode M.2.1 pc = .ok (.getfield 12, 3)) (h : Ex E M Q (pc + 3) ls (.ref r :: st) μ) : Ex E M Q pc ls (.ref o :: st) μ :=
  x_get (ci := 1) (k := 1) ho (by decide) rfl iG1 (by decide) (by rw [ln1 o ho]; decide) (by rw [hM]; exact fl1_1) (by unfold fp; rw [ho, hr]; rfl) hd h
set_option maxRecDepth 20000 in
theorem fl1_2 : Cond.fieldLink RX1 18 (TX1 2).1 (TX1 2).2.1 (TX1 2).2.2.1 ∈ tbG := tbk1 147 rfl rfl
theorem gf1_2 {E : EV} {M : MT} {Q : Po} {pc o : Nat} {ls : List (Nat × Value)} {st : List Value} {μ : Mem} {r : Nat} (hM : M.1.cls = RX1) (ho : kd o = 1) (hr : rf o 2 = r) (hd : decode M.2.1 pc = .ok (.getfield 18, 3)) (h : Ex E M Q (pc + 3) ls (.ref r :: st) μ) : Ex E M Q pc ls (.ref o :: st) μ :=
  x_get (ci := 1) (k := 2) ho (by decide) rfl iG1 (by decide) (by rw [ln1 o ho]; decide) (by rw [hM]; exact fl1_2) (by unfold fp; rw [ho, hr]; rfl) hd h
set_option maxRecDepth 20000 in
theorem fl1_3 : Cond.fieldLink RX1 22 (TX1 3).1 (TX1 3).2.1 (TX1 3).2.2.1 ∈ tbG := tbk1 148 rfl rfl
theorem gf1_3 {E : EV} {M : MT} {Q : Po} {pc o : Nat} {ls : List (Nat × Value)} {st : List Value} {μ : Mem} {r : Nat} (hM : M.1.cls = RX1) (ho : kd o = 1) (hr : rf o 3 = r) (hd : decode M.2.1 pc = .ok (.getfield 22, 3)) (h : Ex E M Q (pc + 3) ls (.ref r :: st) μ) : Ex E M Q pc ls (.ref o :: st) μ :=
  x_get (ci := 1) (k := 3) ho (by decide) rfl iG1 (by decide) (by rw [ln1 o ho]; decide) (by rw [hM]; exact fl1_3) (by unfold fp; rw [ho, hr]; rfl) hd h
set_option maxRecDepth 20000 in
theorem fl1_0 : Cond.fieldLink RX1 25 (TX1 0).1 (TX1 0).2.1 (TX1 0).2.2.1 ∈ tbG := tbk1 145 rfl rfl
theorem gf1_0 {E : EV} {M : MT} {Q : Po} {pc o : Nat} {ls : List (Nat × Value)} {st : List Value} {μ : Mem} {r : Nat} (hM : M.1.cls = RX1) (ho : kd o = 1) (hr : rf o 0 = r) (hd : decode M.2.1 pc = .ok (.getfield 25, 3)) (h : Ex E M Q (pc + 3) ls (.ref r :: st) μ) : Ex E M Q pc ls (.ref o :: st) μ :=
  x_get (ci := 1) (k := 0) ho (by decide) rfl iG1 (by decide) (by rw [ln1 o ho]; decide) (by rw [hM]; exact fl1_0) (by unfold fp; rw [ho, hr]; rfl) hd h
set_option maxRecDepth 20000 in
theorem fl2_1 : Cond.fieldLink RX2 12 (TX2 1).1 (TX2 1).2.1 (TX2 1).2.2.1 ∈ tbG := tbk1 75 rfl rfl
theorem gf2_1 {E : EV} {M : MT} {Q : Po} {pc o : Nat} {ls : List (Nat × Value)} {st : List Value} {μ : Mem} {r : Nat} (hM : M.1.cls = RX2) (ho : kd o = 2) (hr : rf o 1 = r) (hd : decode M.2.1 pc = .ok (.getfield 12, 3)) (h : Ex E M Q (pc + 3) ls (.ref r :: st) μ) : Ex E M Q pc ls (.ref o :: st) μ :=
  x_get (ci := 2) (k := 1) ho (by decide) rfl iG2 (by decide) (by rw [ln2 o ho]; decide) (by rw [hM]; exact fl2_1) (by unfold fp; rw [ho, hr]; rfl) hd h
set_option maxRecDepth 20000 in
theorem fl2_0 : Cond.fieldLink RX2 18 (TX2 0).1 (TX2 0).2.1 (TX2 0).2.2.1 ∈ tbG := tbk1 74 rfl rfl
theorem gf2_0 {E : EV} {M : MT} {Q : Po} {pc o : Nat} {ls : List (Nat × Value)} {st : List Value} {μ : Mem} {r : Nat} (hM : M.1.cls = RX2) (ho : kd o = 2) (hr : rf o 0 = r) (hd : decode M.2.1 pc = .ok (.getfield 18, 3)) (h : Ex E M Q (pc + 3) ls (.ref r :: st) μ) : Ex E M Q pc ls (.ref o :: st) μ :=
  x_get (ci := 2) (k := 0) ho (by decide) rfl iG2 (by decide) (by rw [ln2 o ho]; decide) (by rw [hM]; exact fl2_0) (by unfold fp; rw [ho, hr]; rfl) hd h
set_option maxRecDepth 20000 in
theorem fl2_2 : Cond.fieldLink RX2 22 (TX2 2).1 (TX2 2).2.1 (TX2 2).2.2.1 ∈ tbG := tbk1 76 rfl rfl
theorem gf2_2 {E : EV} {M : MT} {Q : Po} {pc o : Nat} {ls : List (Nat × Value)} {st : List Value} {μ : Mem} (hM : M.1.cls = RX2) (ho : kd o = 2) (hd : decode M.2.1 pc = .ok (.getfield 22, 3)) (h : Ex E M Q (pc + 3) ls (.int (μ.1 o 2) :: st) μ) : Ex E M Q pc ls (.ref o :: st) μ :=
  x_get (ci := 2) (k := 2) ho (by decide) rfl iG2 (by decide) (by rw [ln2 o ho]; decide) (by rw [hM]; exact fl2_2) (by unfold fp; rw [ho]; rfl) hd h
theorem pf2_2 {E : EV} {M : MT} {Q : Po} {pc o : Nat} {ls : List (Nat × Value)} {st : List Value} {μ : Mem} {x : Int32} (hM : M.1.cls = RX2) (ho : kd o = 2) (hd : decode M.2.1 pc = .ok (.putfield 22, 3)) (h : Ex E M Q (pc + 3) ls st (mI μ o 2 x)) : Ex E M Q pc ls (.int x :: .ref o :: st) μ :=
  x_putI (ci := 2) (k := 2) (ty := .int) tyX2 tyX2_ok nmX2 ho (by decide) rfl iG2 (by decide) (by rw [ln2 o ho]; decide) (by rw [hM]; exact fl2_2) rfl (by decide) (by decide +kernel) rfl rfl hd h
set_option maxRecDepth 20000 in
theorem fl2_3 : Cond.fieldLink RX2 26 (TX2 3).1 (TX2 3).2.1 (TX2 3).2.2.1 ∈ tbG := tbk1 77 rfl rfl
theorem gf2_3 {E : EV} {M : MT} {Q : Po} {pc o : Nat} {ls : List (Nat × Value)} {st : List Value} {μ : Mem} (hM : M.1.cls = RX2) (ho : kd o = 2) (hd : decode M.2.1 pc = .ok (.getfield 26, 3)) (h : Ex E M Q (pc + 3) ls (.int (μ.1 o 3) :: st) μ) : Ex E M Q pc ls (.ref o :: st) μ :=
  x_get (ci := 2) (k := 3) ho (by decide) rfl iG2 (by decide) (by rw [ln2 o ho]; decide) (by rw [hM]; exact fl2_3) (by unfold fp; rw [ho]; rfl) hd h
theorem pf2_3 {E : EV} {M : MT} {Q : Po} {pc o : Nat} {ls : List (Nat × Value)} {st : List Value} {μ : Mem} {x : Int32} (hM : M.1.cls = RX2) (ho : kd o = 2) (hd : decode M.2.1 pc = .ok (.putfield 26, 3)) (h : Ex E M Q (pc + 3) ls st (mI μ o 3 x)) : Ex E M Q pc ls (.int x :: .ref o :: st) μ :=
  x_putI (ci := 2) (k := 3) (ty := .int) tyX2 tyX2_ok nmX2 ho (by decide) rfl iG2 (by decide) (by rw [ln2 o ho]; decide) (by rw [hM]; exact fl2_3) rfl (by decide) (by decide +kernel) rfl rfl hd h
set_option maxRecDepth 20000 in
theorem fl2_4 : Cond.fieldLink RX2 33 (TX2 4).1 (TX2 4).2.1 (TX2 4).2.2.1 ∈ tbG := tbk1 78 rfl rfl
theorem gf2_4 {E : EV} {M : MT} {Q : Po} {pc o : Nat} {ls : List (Nat × Value)} {st : List Value} {μ : Mem} (hM : M.1.cls = RX2) (ho : kd o = 2) (hd : decode M.2.1 pc = .ok (.getfield 33, 3)) (h : Ex E M Q (pc + 3) ls (.int (μ.1 o 4) :: st) μ) : Ex E M Q pc ls (.ref o :: st) μ :=
  x_get (ci := 2) (k := 4) ho (by decide) rfl iG2 (by decide) (by rw [ln2 o ho]; decide) (by rw [hM]; exact fl2_4) (by unfold fp; rw [ho]; rfl) hd h
theorem pf2_4 {E : EV} {M : MT} {Q : Po} {pc o : Nat} {ls : List (Nat × Value)} {st : List Value} {μ : Mem} {x : Int32} (hM : M.1.cls = RX2) (ho : kd o = 2) (hd : decode M.2.1 pc = .ok (.putfield 33, 3)) (h : Ex E M Q (pc + 3) ls st (mI μ o 4 x)) : Ex E M Q pc ls (.int x :: .ref o :: st) μ :=
  x_putI (ci := 2) (k := 4) (ty := .int) tyX2 tyX2_ok nmX2 ho (by decide) rfl iG2 (by decide) (by rw [ln2 o ho]; decide) (by rw [hM]; exact fl2_4) rfl (by decide) (by decide +kernel) rfl rfl hd h
set_option maxRecDepth 20000 in
theorem fl2_5 : Cond.fieldLink RX2 36 (TX2 5).1 (TX2 5).2.1 (TX2 5).2.2.1 ∈ tbG := tbk1 79 rfl rfl
theorem gf2_5 {E : EV} {M : MT} {Q : Po} {pc o : Nat} {ls : List (Nat × Value)} {st : List Value} {μ : Mem} (hM : M.1.cls = RX2) (ho : kd o = 2) (hd : decode M.2.1 pc = .ok (.getfield 36, 3)) (h : Ex E M Q (pc + 3) ls (.int (μ.1 o 5) :: st) μ) : Ex E M Q pc ls (.ref o :: st) μ :=
  x_get (ci := 2) (k := 5) ho (by decide) rfl iG2 (by decide) (by rw [ln2 o ho]; decide) (by rw [hM]; exact fl2_5) (by unfold fp; rw [ho]; rfl) hd h
theorem pf2_5 {E : EV} {M : MT} {Q : Po} {pc o : Nat} {ls : List (Nat × Value)} {st : List Value} {μ : Mem} {x : Int32} (hM : M.1.cls = RX2) (ho : kd o = 2) (hd : decode M.2.1 pc = .ok (.putfield 36, 3)) (h : Ex E M Q (pc + 3) ls st (mI μ o 5 x)) : Ex E M Q pc ls (.int x :: .ref o :: st) μ :=
  x_putI (ci := 2) (k := 5) (ty := .int) tyX2 tyX2_ok nmX2 ho (by decide) rfl iG2 (by decide) (by rw [ln2 o ho]; decide) (by rw [hM]; exact fl2_5) rfl (by decide) (by decide +kernel) rfl rfl hd h
set_option maxRecDepth 20000 in
theorem fl3_0 : Cond.fieldLink RX3 9 (TX3 0).1 (TX3 0).2.1 (TX3 0).2.2.1 ∈ tbG := tbk1 31 rfl rfl
theorem gf3_0 {E : EV} {M : MT} {Q : Po} {pc o : Nat} {ls : List (Nat × Value)} {st : List Value} {μ : Mem} {r : Nat} (hM : M.1.cls = RX3) (ho : kd o = 3) (hr : rf o 0 = r) (hd : decode M.2.1 pc = .ok (.getfield 9, 3)) (h : Ex E M Q (pc + 3) ls (.ref r :: st) μ) : Ex E M Q pc ls (.ref o :: st) μ :=
  x_get (ci := 3) (k := 0) ho (by decide) rfl iG3 (by decide) (by rw [ln3 o ho]; decide) (by rw [hM]; exact fl3_0) (by unfold fp; rw [ho, hr]; rfl) hd h
set_option maxRecDepth 20000 in
theorem fl3_4 : Cond.fieldLink RX3 15 (TX3 4).1 (TX3 4).2.1 (TX3 4).2.2.1 ∈ tbG := tbk1 35 rfl rfl
theorem gf3_4 {E : EV} {M : MT} {Q : Po} {pc o : Nat} {ls : List (Nat × Value)} {st : List Value} {μ : Mem} (hM : M.1.cls = RX3) (ho : kd o = 3) (hd : decode M.2.1 pc = .ok (.getfield 15, 3)) (h : Ex E M Q (pc + 3) ls (.int (μ.1 o 4) :: st) μ) : Ex E M Q pc ls (.ref o :: st) μ :=
  x_get (ci := 3) (k := 4) ho (by decide) rfl iG3 (by decide) (by rw [ln3 o ho]; decide) (by rw [hM]; exact fl3_4) (by unfold fp; rw [ho]; rfl) hd h
theorem pf3_4 {E : EV} {M : MT} {Q : Po} {pc o : Nat} {ls : List (Nat × Value)} {st : List Value} {μ : Mem} {x : Int32} (hM : M.1.cls = RX3) (ho : kd o = 3) (hd : decode M.2.1 pc = .ok (.putfield 15, 3)) (h : Ex E M Q (pc + 3) ls st (mI μ o 4 x)) : Ex E M Q pc ls (.int x :: .ref o :: st) μ :=
  x_putI (ci := 3) (k := 4) (ty := .int) tyX3 tyX3_ok nmX3 ho (by decide) rfl iG3 (by decide) (by rw [ln3 o ho]; decide) (by rw [hM]; exact fl3_4) rfl (by decide) (by decide +kernel) rfl rfl hd h
set_option maxRecDepth 20000 in
theorem fl3_5 : Cond.fieldLink RX3 19 (TX3 5).1 (TX3 5).2.1 (TX3 5).2.2.1 ∈ tbG := tbk1 36 rfl rfl
theorem gf3_5 {E : EV} {M : MT} {Q : Po} {pc o : Nat} {ls : List (Nat × Value)} {st : List Value} {μ : Mem} (hM : M.1.cls = RX3) (ho : kd o = 3) (hd : decode M.2.1 pc = .ok (.getfield 19, 3)) (h : Ex E M Q (pc + 3) ls (.int (μ.1 o 5) :: st) μ) : Ex E M Q pc ls (.ref o :: st) μ :=
  x_get (ci := 3) (k := 5) ho (by decide) rfl iG3 (by decide) (by rw [ln3 o ho]; decide) (by rw [hM]; exact fl3_5) (by unfold fp; rw [ho]; rfl) hd h
theorem pf3_5 {E : EV} {M : MT} {Q : Po} {pc o : Nat} {ls : List (Nat × Value)} {st : List Value} {μ : Mem} {x : Int32} (hM : M.1.cls = RX3) (ho : kd o = 3) (hd : decode M.2.1 pc = .ok (.putfield 19, 3)) (h : Ex E M Q (pc + 3) ls st (mI μ o 5 x)) : Ex E M Q pc ls (.int x :: .ref o :: st) μ :=
  x_putI (ci := 3) (k := 5) (ty := .int) tyX3 tyX3_ok nmX3 ho (by decide) rfl iG3 (by decide) (by rw [ln3 o ho]; decide) (by rw [hM]; exact fl3_5) rfl (by decide) (by decide +kernel) rfl rfl hd h
set_option maxRecDepth 20000 in
theorem fl3_1 : Cond.fieldLink RX3 35 (TX3 1).1 (TX3 1).2.1 (TX3 1).2.2.1 ∈ tbG := tbk1 32 rfl rfl
theorem gf3_1 {E : EV} {M : MT} {Q : Po} {pc o : Nat} {ls : List (Nat × Value)} {st : List Value} {μ : Mem} (hM : M.1.cls = RX3) (ho : kd o = 3) (hd : decode M.2.1 pc = .ok (.getfield 35, 3)) (h : Ex E M Q (pc + 3) ls (.int (μ.1 o 1) :: st) μ) : Ex E M Q pc ls (.ref o :: st) μ :=
  x_get (ci := 3) (k := 1) ho (by decide) rfl iG3 (by decide) (by rw [ln3 o ho]; decide) (by rw [hM]; exact fl3_1) (by unfold fp; rw [ho]; rfl) hd h
theorem pf3_1 {E : EV} {M : MT} {Q : Po} {pc o : Nat} {ls : List (Nat × Value)} {st : List Value} {μ : Mem} {x : Int32} (hM : M.1.cls = RX3) (ho : kd o = 3) (hd : decode M.2.1 pc = .ok (.putfield 35, 3)) (h : Ex E M Q (pc + 3) ls st (mI μ o 1 x)) : Ex E M Q pc ls (.int x :: .ref o :: st) μ :=
  x_putI (ci := 3) (k := 1) (ty := .int) tyX3 tyX3_ok nmX3 ho (by decide) rfl iG3 (by decide) (by rw [ln3 o ho]; decide) (by rw [hM]; exact fl3_1) rfl (by decide) (by decide +kernel) rfl rfl hd h
set_option maxRecDepth 20000 in
theorem fl3_2 : Cond.fieldLink RX3 38 (TX3 2).1 (TX3 2).2.1 (TX3 2).2.2.1 ∈ tbG := tbk1 33 rfl rfl
theorem gf3_2 {E : EV} {M : MT} {Q : Po} {pc o : Nat} {ls : List (Nat × Value)} {st : List Value} {μ : Mem} (hM : M.1.cls = RX3) (ho : kd o = 3) (hd : decode M.2.1 pc = .ok (.getfield 38, 3)) (h : Ex E M Q (pc + 3) ls (.int (μ.1 o 2) :: st) μ) : Ex E M Q pc ls (.ref o :: st) μ :=
  x_get (ci := 3) (k := 2) ho (by decide) rfl iG3 (by decide) (by rw [ln3 o ho]; decide) (by rw [hM]; exact fl3_2) (by unfold fp; rw [ho]; rfl) hd h
theorem pf3_2 {E : EV} {M : MT} {Q : Po} {pc o : Nat} {ls : List (Nat × Value)} {st : List Value} {μ : Mem} {x : Int32} (hM : M.1.cls = RX3) (ho : kd o = 3) (hd : decode M.2.1 pc = .ok (.putfield 38, 3)) (h : Ex E M Q (pc + 3) ls st (mI μ o 2 x)) : Ex E M Q pc ls (.int x :: .ref o :: st) μ :=
  x_putI (ci := 3) (k := 2) (ty := .int) tyX3 tyX3_ok nmX3 ho (by decide) rfl iG3 (by decide) (by rw [ln3 o ho]; decide) (by rw [hM]; exact fl3_2) rfl (by decide) (by decide +kernel) rfl rfl hd h
set_option maxRecDepth 20000 in
theorem fl3_3 : Cond.fieldLink RX3 59 (TX3 3).1 (TX3 3).2.1 (TX3 3).2.2.1 ∈ tbG := tbk1 34 rfl rfl
theorem gf3_3 {E : EV} {M : MT} {Q : Po} {pc o : Nat} {ls : List (Nat × Value)} {st : List Value} {μ : Mem} (hM : M.1.cls = RX3) (ho : kd o = 3) (hd : decode M.2.1 pc = .ok (.getfield 59, 3)) (h : Ex E M Q (pc + 3) ls (.int (μ.1 o 3) :: st) μ) : Ex E M Q pc ls (.ref o :: st) μ :=
  x_get (ci := 3) (k := 3) ho (by decide) rfl iG3 (by decide) (by rw [ln3 o ho]; decide) (by rw [hM]; exact fl3_3) (by unfold fp; rw [ho]; rfl) hd h
theorem pf3_3 {E : EV} {M : MT} {Q : Po} {pc o : Nat} {ls : List (Nat × Value)} {st : List Value} {μ : Mem} {x : Int32} (hM : M.1.cls = RX3) (ho : kd o = 3) (hd : decode M.2.1 pc = .ok (.putfield 59, 3)) (h : Ex E M Q (pc + 3) ls st (mI μ o 3 x)) : Ex E M Q pc ls (.int x :: .ref o :: st) μ :=
  x_putI (ci := 3) (k := 3) (ty := .int) tyX3 tyX3_ok nmX3 ho (by decide) rfl iG3 (by decide) (by rw [ln3 o ho]; decide) (by rw [hM]; exact fl3_3) rfl (by decide) (by decide +kernel) rfl rfl hd h
set_option maxRecDepth 20000 in
theorem fl4_0 : Cond.fieldLink RX4 9 (TX4 0).1 (TX4 0).2.1 (TX4 0).2.2.1 ∈ tbG := tbk1 196 rfl rfl
theorem gf4_0 {E : EV} {M : MT} {Q : Po} {pc o : Nat} {ls : List (Nat × Value)} {st : List Value} {μ : Mem} {r : Nat} (hM : M.1.cls = RX4) (ho : kd o = 4) (hr : rf o 0 = r) (hd : decode M.2.1 pc = .ok (.getfield 9, 3)) (h : Ex E M Q (pc + 3) ls (.ref r :: st) μ) : Ex E M Q pc ls (.ref o :: st) μ :=
  x_get (ci := 4) (k := 0) ho (by decide) rfl iG4 (by decide) (by rw [ln4 o ho]; decide) (by rw [hM]; exact fl4_0) (by unfold fp; rw [ho, hr]; rfl) hd h
set_option maxRecDepth 20000 in
theorem fl4_1 : Cond.fieldLink RX4 15 (TX4 1).1 (TX4 1).2.1 (TX4 1).2.2.1 ∈ tbG := tbk1 197 rfl rfl
theorem gf4_1 {E : EV} {M : MT} {Q : Po} {pc o : Nat} {ls : List (Nat × Value)} {st : List Value} {μ : Mem} {r : Nat} (hM : M.1.cls = RX4) (ho : kd o = 4) (hr : rf o 1 = r) (hd : decode M.2.1 pc = .ok (.getfield 15, 3)) (h : Ex E M Q (pc + 3) ls (.ref r :: st) μ) : Ex E M Q pc ls (.ref o :: st) μ :=
  x_get (ci := 4) (k := 1) ho (by decide) rfl iG4 (by decide) (by rw [ln4 o ho]; decide) (by rw [hM]; exact fl4_1) (by unfold fp; rw [ho, hr]; rfl) hd h
set_option maxRecDepth 20000 in
theorem fl4_2 : Cond.fieldLink RX4 18 (TX4 2).1 (TX4 2).2.1 (TX4 2).2.2.1 ∈ tbG := tbk1 198 rfl rfl
theorem gf4_2 {E : EV} {M : MT} {Q : Po} {pc o : Nat} {ls : List (Nat × Value)} {st : List Value} {μ : Mem} {r : Nat} (hM : M.1.cls = RX4) (ho : kd o = 4) (hr : rf o 2 = r) (hd : decode M.2.1 pc = .ok (.getfield 18, 3)) (h : Ex E M Q (pc + 3) ls (.ref r :: st) μ) : Ex E M Q pc ls (.ref o :: st) μ :=
  x_get (ci := 4) (k := 2) ho (by decide) rfl iG4 (by decide) (by rw [ln4 o ho]; decide) (by rw [hM]; exact fl4_2) (by unfold fp; rw [ho, hr]; rfl) hd h
set_option maxRecDepth 20000 in
theorem fl4_3 : Cond.fieldLink RX4 21 (TX4 3).1 (TX4 3).2.1 (TX4 3).2.2.1 ∈ tbG := tbk1 199 rfl rfl
theorem gf4_3 {E : EV} {M : MT} {Q : Po} {pc o : Nat} {ls : List (Nat × Value)} {st : List Value} {μ : Mem} {r : Nat} (hM : M.1.cls = RX4) (ho : kd o = 4) (hr : rf o 3 = r) (hd : decode M.2.1 pc = .ok (.getfield 21, 3)) (h : Ex E M Q (pc + 3) ls (.ref r :: st) μ) : Ex E M Q pc ls (.ref o :: st) μ :=
  x_get (ci := 4) (k := 3) ho (by decide) rfl iG4 (by decide) (by rw [ln4 o ho]; decide) (by rw [hM]; exact fl4_3) (by unfold fp; rw [ho, hr]; rfl) hd h
set_option maxRecDepth 20000 in
theorem fl4_4 : Cond.fieldLink RX4 24 (TX4 4).1 (TX4 4).2.1 (TX4 4).2.2.1 ∈ tbG := tbk1 200 rfl rfl
theorem gf4_4 {E : EV} {M : MT} {Q : Po} {pc o : Nat} {ls : List (Nat × Value)} {st : List Value} {μ : Mem} (hM : M.1.cls = RX4) (ho : kd o = 4) (hd : decode M.2.1 pc = .ok (.getfield 24, 3)) (h : Ex E M Q (pc + 3) ls (.int (μ.1 o 4) :: st) μ) : Ex E M Q pc ls (.ref o :: st) μ :=
  x_get (ci := 4) (k := 4) ho (by decide) rfl iG4 (by decide) (by rw [ln4 o ho]; decide) (by rw [hM]; exact fl4_4) (by unfold fp; rw [ho]; rfl) hd h
theorem pf4_4 {E : EV} {M : MT} {Q : Po} {pc o : Nat} {ls : List (Nat × Value)} {st : List Value} {μ : Mem} {x : Int32} (hM : M.1.cls = RX4) (ho : kd o = 4) (hd : decode M.2.1 pc = .ok (.putfield 24, 3)) (h : Ex E M Q (pc + 3) ls st (mI μ o 4 x)) : Ex E M Q pc ls (.int x :: .ref o :: st) μ :=
  x_putI (ci := 4) (k := 4) (ty := .int) tyX4 tyX4_ok nmX4 ho (by decide) rfl iG4 (by decide) (by rw [ln4 o ho]; decide) (by rw [hM]; exact fl4_4) rfl (by decide) (by decide +kernel) rfl rfl hd h
set_option maxRecDepth 20000 in
theorem fl5_0 : Cond.fieldLink RX5 9 (TX5 0).1 (TX5 0).2.1 (TX5 0).2.2.1 ∈ tbG := tbk1 59 rfl rfl
theorem gf5_0 {E : EV} {M : MT} {Q : Po} {pc o : Nat} {ls : List (Nat × Value)} {st : List Value} {μ : Mem} {r : Nat} (hM : M.1.cls = RX5) (ho : kd o = 5) (hr : rf o 0 = r) (hd : decode M.2.1 pc = .ok (.getfield 9, 3)) (h : Ex E M Q (pc + 3) ls (.ref r :: st) μ) : Ex E M Q pc ls (.ref o :: st) μ :=
  x_get (ci := 5) (k := 0) ho (by decide) rfl iG5 (by decide) (by rw [ln5 o ho]; decide) (by rw [hM]; exact fl5_0) (by unfold fp; rw [ho, hr]; rfl) hd h
set_option maxRecDepth 20000 in
theorem fl5_1 : Cond.fieldLink RX5 15 (TX5 1).1 (TX5 1).2.1 (TX5 1).2.2.1 ∈ tbG := tbk1 60 rfl rfl
theorem gf5_1 {E : EV} {M : MT} {Q : Po} {pc o : Nat} {ls : List (Nat × Value)} {st : List Value} {μ : Mem} (hM : M.1.cls = RX5) (ho : kd o = 5) (hd : decode M.2.1 pc = .ok (.getfield 15, 3)) (h : Ex E M Q (pc + 3) ls (.int (μ.1 o 1) :: st) μ) : Ex E M Q pc ls (.ref o :: st) μ :=
  x_get (ci := 5) (k := 1) ho (by decide) rfl iG5 (by decide) (by rw [ln5 o ho]; decide) (by rw [hM]; exact fl5_1) (by unfold fp; rw [ho]; rfl) hd h
theorem pf5_1 {E : EV} {M : MT} {Q : Po} {pc o : Nat} {ls : List (Nat × Value)} {st : List Value} {μ : Mem} {x : Int32} (hM : M.1.cls = RX5) (ho : kd o = 5) (hd : decode M.2.1 pc = .ok (.putfield 15, 3)) (h : Ex E M Q (pc + 3) ls st (mI μ o 1 x)) : Ex E M Q pc ls (.int x :: .ref o :: st) μ :=
  x_putI (ci := 5) (k := 1) (ty := .int) tyX5 tyX5_ok nmX5 ho (by decide) rfl iG5 (by decide) (by rw [ln5 o ho]; decide) (by rw [hM]; exact fl5_1) rfl (by decide) (by decide +kernel) rfl rfl hd h
set_option maxRecDepth 20000 in
theorem fl6_1 : Cond.fieldLink RX6 12 (TX6 1).1 (TX6 1).2.1 (TX6 1).2.2.1 ∈ tbG := tbk1 118 rfl rfl
theorem gf6_1 {E : EV} {M : MT} {Q : Po} {pc o : Nat} {ls : List (Nat × Value)} {st : List Value} {μ : Mem} {r : Nat} (hM : M.1.cls = RX6) (ho : kd o = 6) (hr : rf o 1 = r) (hd : decode M.2.1 pc = .ok (.getfield 12, 3)) (h : Ex E M Q (pc + 3) ls (.ref r :: st) μ) : Ex E M Q pc ls (.ref o :: st) μ :=
  x_get (ci := 6) (k := 1) ho (by decide) rfl iG6 (by decide) (by rw [ln6 o ho]; decide) (by rw [hM]; exact fl6_1) (by unfold fp; rw [ho, hr]; rfl) hd h
set_option maxRecDepth 20000 in
theorem fl6_2 : Cond.fieldLink RX6 18 (TX6 2).1 (TX6 2).2.1 (TX6 2).2.2.1 ∈ tbG := tbk1 119 rfl rfl
theorem gf6_2 {E : EV} {M : MT} {Q : Po} {pc o : Nat} {ls : List (Nat × Value)} {st : List Value} {μ : Mem} {r : Nat} (hM : M.1.cls = RX6) (ho : kd o = 6) (hr : rf o 2 = r) (hd : decode M.2.1 pc = .ok (.getfield 18, 3)) (h : Ex E M Q (pc + 3) ls (.ref r :: st) μ) : Ex E M Q pc ls (.ref o :: st) μ :=
  x_get (ci := 6) (k := 2) ho (by decide) rfl iG6 (by decide) (by rw [ln6 o ho]; decide) (by rw [hM]; exact fl6_2) (by unfold fp; rw [ho, hr]; rfl) hd h
set_option maxRecDepth 20000 in
theorem fl6_4 : Cond.fieldLink RX6 22 (TX6 4).1 (TX6 4).2.1 (TX6 4).2.2.1 ∈ tbG := tbk1 121 rfl rfl
theorem gf6_4 {E : EV} {M : MT} {Q : Po} {pc o : Nat} {ls : List (Nat × Value)} {st : List Value} {μ : Mem} {r : Nat} (hM : M.1.cls = RX6) (ho : kd o = 6) (hr : rf o 4 = r) (hd : decode M.2.1 pc = .ok (.getfield 22, 3)) (h : Ex E M Q (pc + 3) ls (.ref r :: st) μ) : Ex E M Q pc ls (.ref o :: st) μ :=
  x_get (ci := 6) (k := 4) ho (by decide) rfl iG6 (by decide) (by rw [ln6 o ho]; decide) (by rw [hM]; exact fl6_4) (by unfold fp; rw [ho, hr]; rfl) hd h
set_option maxRecDepth 20000 in
theorem fl6_5 : Cond.fieldLink RX6 26 (TX6 5).1 (TX6 5).2.1 (TX6 5).2.2.1 ∈ tbG := tbk1 122 rfl rfl
theorem gf6_5 {E : EV} {M : MT} {Q : Po} {pc o : Nat} {ls : List (Nat × Value)} {st : List Value} {μ : Mem} {r : Nat} (hM : M.1.cls = RX6) (ho : kd o = 6) (hr : rf o 5 = r) (hd : decode M.2.1 pc = .ok (.getfield 26, 3)) (h : Ex E M Q (pc + 3) ls (.ref r :: st) μ) : Ex E M Q pc ls (.ref o :: st) μ :=
  x_get (ci := 6) (k := 5) ho (by decide) rfl iG6 (by decide) (by rw [ln6 o ho]; decide) (by rw [hM]; exact fl6_5) (by unfold fp; rw [ho, hr]; rfl) hd h
set_option maxRecDepth 20000 in
theorem fl6_0 : Cond.fieldLink RX6 29 (TX6 0).1 (TX6 0).2.1 (TX6 0).2.2.1 ∈ tbG := tbk1 117 rfl rfl
theorem gf6_0 {E : EV} {M : MT} {Q : Po} {pc o : Nat} {ls : List (Nat × Value)} {st : List Value} {μ : Mem} {r : Nat} (hM : M.1.cls = RX6) (ho : kd o = 6) (hr : rf o 0 = r) (hd : decode M.2.1 pc = .ok (.getfield 29, 3)) (h : Ex E M Q (pc + 3) ls (.ref r :: st) μ) : Ex E M Q pc ls (.ref o :: st) μ :=
  x_get (ci := 6) (k := 0) ho (by decide) rfl iG6 (by decide) (by rw [ln6 o ho]; decide) (by rw [hM]; exact fl6_0) (by unfold fp; rw [ho, hr]; rfl) hd h
set_option maxRecDepth 20000 in
theorem fl6_3 : Cond.fieldLink RX6 43 (TX6 3).1 (TX6 3).2.1 (TX6 3).2.2.1 ∈ tbG := tbk1 120 rfl rfl
theorem gf6_3 {E : EV} {M : MT} {Q : Po} {pc o : Nat} {ls : List (Nat × Value)} {st : List Value} {μ : Mem} (hM : M.1.cls = RX6) (ho : kd o = 6) (hd : decode M.2.1 pc = .ok (.getfield 43, 3)) (h : Ex E M Q (pc + 3) ls (.int (μ.1 o 3) :: st) μ) : Ex E M Q pc ls (.ref o :: st) μ :=
  x_get (ci := 6) (k := 3) ho (by decide) rfl iG6 (by decide) (by rw [ln6 o ho]; decide) (by rw [hM]; exact fl6_3) (by unfold fp; rw [ho]; rfl) hd h
theorem pf6_3 {E : EV} {M : MT} {Q : Po} {pc o : Nat} {ls : List (Nat × Value)} {st : List Value} {μ : Mem} {x : Int32} (hM : M.1.cls = RX6) (ho : kd o = 6) (hd : decode M.2.1 pc = .ok (.putfield 43, 3)) (h : Ex E M Q (pc + 3) ls st (mI μ o 3 x)) : Ex E M Q pc ls (.int x :: .ref o :: st) μ :=
  x_putI (ci := 6) (k := 3) (ty := .int) tyX6 tyX6_ok nmX6 ho (by decide) rfl iG6 (by decide) (by rw [ln6 o ho]; decide) (by rw [hM]; exact fl6_3) rfl (by decide) (by decide +kernel) rfl rfl hd h
set_option maxRecDepth 20000 in
theorem fl7_0 : Cond.fieldLink RX7 11 (TX7 0).1 (TX7 0).2.1 (TX7 0).2.2.1 ∈ tbG := tbk1 224 rfl rfl
theorem gf7_0 {E : EV} {M : MT} {Q : Po} {pc o : Nat} {ls : List (Nat × Value)} {st : List Value} {μ : Mem} {r : Nat} (hM : M.1.cls = RX7) (ho : kd o = 7) (hr : rf o 0 = r) (hd : decode M.2.1 pc = .ok (.getfield 11, 3)) (h : Ex E M Q (pc + 3) ls (.ref r :: st) μ) : Ex E M Q pc ls (.ref o :: st) μ :=
  x_get (ci := 7) (k := 0) ho (by decide) rfl iG7 (by decide) (by rw [ln7 o ho]; decide) (by rw [hM]; exact fl7_0) (by unfold fp; rw [ho, hr]; rfl) hd h
set_option maxRecDepth 20000 in
theorem fl7_1 : Cond.fieldLink RX7 16 (TX7 1).1 (TX7 1).2.1 (TX7 1).2.2.1 ∈ tbG := tbk1 225 rfl rfl
theorem gf7_1 {E : EV} {M : MT} {Q : Po} {pc o : Nat} {ls : List (Nat × Value)} {st : List Value} {μ : Mem} {r : Nat} (hM : M.1.cls = RX7) (ho : kd o = 7) (hr : rf o 1 = r) (hd : decode M.2.1 pc = .ok (.getfield 16, 3)) (h : Ex E M Q (pc + 3) ls (.ref r :: st) μ) : Ex E M Q pc ls (.ref o :: st) μ :=
  x_get (ci := 7) (k := 1) ho (by decide) rfl iG7 (by decide) (by rw [ln7 o ho]; decide) (by rw [hM]; exact fl7_1) (by unfold fp; rw [ho, hr]; rfl) hd h
set_option maxRecDepth 20000 in
theorem fl7_2 : Cond.fieldLink RX7 20 (TX7 2).1 (TX7 2).2.1 (TX7 2).2.2.1 ∈ tbG := tbk1 226 rfl rfl
theorem gf7_2 {E : EV} {M : MT} {Q : Po} {pc o : Nat} {ls : List (Nat × Value)} {st : List Value} {μ : Mem} {r : Nat} (hM : M.1.cls = RX7) (ho : kd o = 7) (hr : rf o 2 = r) (hd : decode M.2.1 pc = .ok (.getfield 20, 3)) (h : Ex E M Q (pc + 3) ls (.ref r :: st) μ) : Ex E M Q pc ls (.ref o :: st) μ :=
  x_get (ci := 7) (k := 2) ho (by decide) rfl iG7 (by decide) (by rw [ln7 o ho]; decide) (by rw [hM]; exact fl7_2) (by unfold fp; rw [ho, hr]; rfl) hd h
set_option maxRecDepth 20000 in
theorem fl7_3 : Cond.fieldLink RX7 29 (TX7 3).1 (TX7 3).2.1 (TX7 3).2.2.1 ∈ tbG := tbk1 227 rfl rfl
theorem gf7_3 {E : EV} {M : MT} {Q : Po} {pc o : Nat} {ls : List (Nat × Value)} {st : List Value} {μ : Mem} (hM : M.1.cls = RX7) (ho : kd o = 7) (hd : decode M.2.1 pc = .ok (.getfield 29, 3)) (h : Ex E M Q (pc + 3) ls (.int (μ.1 o 3) :: st) μ) : Ex E M Q pc ls (.ref o :: st) μ :=
  x_get (ci := 7) (k := 3) ho (by decide) rfl iG7 (by decide) (by rw [ln7 o ho]; decide) (by rw [hM]; exact fl7_3) (by unfold fp; rw [ho]; rfl) hd h
theorem pf7_3 {E : EV} {M : MT} {Q : Po} {pc o : Nat} {ls : List (Nat × Value)} {st : List Value} {μ : Mem} {x : Int32} (hM : M.1.cls = RX7) (ho : kd o = 7) (hd : decode M.2.1 pc = .ok (.putfield 29, 3)) (h : Ex E M Q (pc + 3) ls st (mI μ o 3 x)) : Ex E M Q pc ls (.int x :: .ref o :: st) μ :=
  x_putI (ci := 7) (k := 3) (ty := .int) tyX7 tyX7_ok nmX7 ho (by decide) rfl iG7 (by decide) (by rw [ln7 o ho]; decide) (by rw [hM]; exact fl7_3) rfl (by decide) (by decide +kernel) rfl rfl hd h
set_option maxRecDepth 20000 in
theorem fl8_0 : Cond.fieldLink RX8 9 (TX8 0).1 (TX8 0).2.1 (TX8 0).2.2.1 ∈ tbG := tbk2 5 rfl rfl
theorem gf8_0 {E : EV} {M : MT} {Q : Po} {pc o : Nat} {ls : List (Nat × Value)} {st : List Value} {μ : Mem} {r : Nat} (hM : M.1.cls = RX8) (ho : kd o = 8) (hr : rf o 0 = r) (hd : decode M.2.1 pc = .ok (.getfield 9, 3)) (h : Ex E M Q (pc + 3) ls (.ref r :: st) μ) : Ex E M Q pc ls (.ref o :: st) μ :=
  x_get (ci := 8) (k := 0) ho (by decide) rfl iG8 (by decide) (by rw [ln8 o ho]; decide) (by rw [hM]; exact fl8_0) (by unfold fp; rw [ho, hr]; rfl) hd h
set_option maxRecDepth 20000 in
theorem fl8_1 : Cond.fieldLink RX8 21 (TX8 1).1 (TX8 1).2.1 (TX8 1).2.2.1 ∈ tbG := tbk2 6 rfl rfl
theorem gf8_1 {E : EV} {M : MT} {Q : Po} {pc o : Nat} {ls : List (Nat × Value)} {st : List Value} {μ : Mem} (hM : M.1.cls = RX8) (ho : kd o = 8) (hd : decode M.2.1 pc = .ok (.getfield 21, 3)) (h : Ex E M Q (pc + 3) ls (.int (μ.1 o 1) :: st) μ) : Ex E M Q pc ls (.ref o :: st) μ :=
  x_get (ci := 8) (k := 1) ho (by decide) rfl iG8 (by decide) (by rw [ln8 o ho]; decide) (by rw [hM]; exact fl8_1) (by unfold fp; rw [ho]; rfl) hd h
set_option maxRecDepth 20000 in
theorem fl8_2 : Cond.fieldLink RX8 25 (TX8 2).1 (TX8 2).2.1 (TX8 2).2.2.1 ∈ tbG := tbk2 7 rfl rfl
theorem gf8_2 {E : EV} {M : MT} {Q : Po} {pc o : Nat} {ls : List (Nat × Value)} {st : List Value} {μ : Mem} (hM : M.1.cls = RX8) (ho : kd o = 8) (hd : decode M.2.1 pc = .ok (.getfield 25, 3)) (h : Ex E M Q (pc + 3) ls (.int (μ.1 o 2) :: st) μ) : Ex E M Q pc ls (.ref o :: st) μ :=
  x_get (ci := 8) (k := 2) ho (by decide) rfl iG8 (by decide) (by rw [ln8 o ho]; decide) (by rw [hM]; exact fl8_2) (by unfold fp; rw [ho]; rfl) hd h
theorem pf8_2 {E : EV} {M : MT} {Q : Po} {pc o : Nat} {ls : List (Nat × Value)} {st : List Value} {μ : Mem} {x : Int32} (hM : M.1.cls = RX8) (ho : kd o = 8) (hd : decode M.2.1 pc = .ok (.putfield 25, 3)) (h : Ex E M Q (pc + 3) ls st (mI μ o 2 x)) : Ex E M Q pc ls (.int x :: .ref o :: st) μ :=
  x_putI (ci := 8) (k := 2) (ty := .int) tyX8 tyX8_ok nmX8 ho (by decide) rfl iG8 (by decide) (by rw [ln8 o ho]; decide) (by rw [hM]; exact fl8_2) rfl (by decide) (by decide +kernel) rfl rfl hd h
set_option maxRecDepth 20000 in
theorem fl9_1 : Cond.fieldLink RX9 12 (TX9 1).1 (TX9 1).2.1 (TX9 1).2.2.1 ∈ tbG := tbk1 169 rfl rfl
theorem gf9_1 {E : EV} {M : MT} {Q : Po} {pc o : Nat} {ls : List (Nat × Value)} {st : List Value} {μ : Mem} {r : Nat} (hM : M.1.cls = RX9) (ho : kd o = 9) (hr : rf o 1 = r) (hd : decode M.2.1 pc = .ok (.getfield 12, 3)) (h : Ex E M Q (pc + 3) ls (.ref r :: st) μ) : Ex E M Q pc ls (.ref o :: st) μ :=
  x_get (ci := 9) (k := 1) ho (by decide) rfl iG9 (by decide) (by rw [ln9 o ho]; decide) (by rw [hM]; exact fl9_1) (by unfold fp; rw [ho, hr]; rfl) hd h
set_option maxRecDepth 20000 in
theorem fl9_2 : Cond.fieldLink RX9 18 (TX9 2).1 (TX9 2).2.1 (TX9 2).2.2.1 ∈ tbG := tbk1 170 rfl rfl
theorem gf9_2 {E : EV} {M : MT} {Q : Po} {pc o : Nat} {ls : List (Nat × Value)} {st : List Value} {μ : Mem} {r : Nat} (hM : M.1.cls = RX9) (ho : kd o = 9) (hr : rf o 2 = r) (hd : decode M.2.1 pc = .ok (.getfield 18, 3)) (h : Ex E M Q (pc + 3) ls (.ref r :: st) μ) : Ex E M Q pc ls (.ref o :: st) μ :=
  x_get (ci := 9) (k := 2) ho (by decide) rfl iG9 (by decide) (by rw [ln9 o ho]; decide) (by rw [hM]; exact fl9_2) (by unfold fp; rw [ho, hr]; rfl) hd h
set_option maxRecDepth 20000 in
theorem fl9_3 : Cond.fieldLink RX9 24 (TX9 3).1 (TX9 3).2.1 (TX9 3).2.2.1 ∈ tbG := tbk1 171 rfl rfl
theorem gf9_3 {E : EV} {M : MT} {Q : Po} {pc o : Nat} {ls : List (Nat × Value)} {st : List Value} {μ : Mem} {r : Nat} (hM : M.1.cls = RX9) (ho : kd o = 9) (hr : rf o 3 = r) (hd : decode M.2.1 pc = .ok (.getfield 24, 3)) (h : Ex E M Q (pc + 3) ls (.ref r :: st) μ) : Ex E M Q pc ls (.ref o :: st) μ :=
  x_get (ci := 9) (k := 3) ho (by decide) rfl iG9 (by decide) (by rw [ln9 o ho]; decide) (by rw [hM]; exact fl9_3) (by unfold fp; rw [ho, hr]; rfl) hd h
set_option maxRecDepth 20000 in
theorem fl9_4 : Cond.fieldLink RX9 27 (TX9 4).1 (TX9 4).2.1 (TX9 4).2.2.1 ∈ tbG := tbk1 172 rfl rfl
theorem gf9_4 {E : EV} {M : MT} {Q : Po} {pc o : Nat} {ls : List (Nat × Value)} {st : List Value} {μ : Mem} {r : Nat} (hM : M.1.cls = RX9) (ho : kd o = 9) (hr : rf o 4 = r) (hd : decode M.2.1 pc = .ok (.getfield 27, 3)) (h : Ex E M Q (pc + 3) ls (.ref r :: st) μ) : Ex E M Q pc ls (.ref o :: st) μ :=
  x_get (ci := 9) (k := 4) ho (by decide) rfl iG9 (by decide) (by rw [ln9 o ho]; decide) (by rw [hM]; exact fl9_4) (by unfold fp; rw [ho, hr]; rfl) hd h
set_option maxRecDepth 20000 in
theorem fl9_5 : Cond.fieldLink RX9 31 (TX9 5).1 (TX9 5).2.1 (TX9 5).2.2.1 ∈ tbG := tbk1 173 rfl rfl
theorem gf9_5 {E : EV} {M : MT} {Q : Po} {pc o : Nat} {ls : List (Nat × Value)} {st : List Value} {μ : Mem} {r : Nat} (hM : M.1.cls = RX9) (ho : kd o = 9) (hr : rf o 5 = r) (hd : decode M.2.1 pc = .ok (.getfield 31, 3)) (h : Ex E M Q (pc + 3) ls (.ref r :: st) μ) : Ex E M Q pc ls (.ref o :: st) μ :=
  x_get (ci := 9) (k := 5) ho (by decide) rfl iG9 (by decide) (by rw [ln9 o ho]; decide) (by rw [hM]; exact fl9_5) (by unfold fp; rw [ho, hr]; rfl) hd h
set_option maxRecDepth 20000 in
theorem fl9_6 : Cond.fieldLink RX9 34 (TX9 6).1 (TX9 6).2.1 (TX9 6).2.2.1 ∈ tbG := tbk1 174 rfl rfl
theorem gf9_6 {E : EV} {M : MT} {Q : Po} {pc o : Nat} {ls : List (Nat × Value)} {st : List Value} {μ : Mem} {r : Nat} (hM : M.1.cls = RX9) (ho : kd o = 9) (hr : rf o 6 = r) (hd : decode M.2.1 pc = .ok (.getfield 34, 3)) (h : Ex E M Q (pc + 3) ls (.ref r :: st) μ) : Ex E M Q pc ls (.ref o :: st) μ :=
  x_get (ci := 9) (k := 6) ho (by decide) rfl iG9 (by decide) (by rw [ln9 o ho]; decide) (by rw [hM]; exact fl9_6) (by unfold fp; rw [ho, hr]; rfl) hd h
set_option maxRecDepth 20000 in
theorem fl9_0 : Cond.fieldLink RX9 37 (TX9 0).1 (TX9 0).2.1 (TX9 0).2.2.1 ∈ tbG := tbk1 168 rfl rfl
theorem gf9_0 {E : EV} {M : MT} {Q : Po} {pc o : Nat} {ls : List (Nat × Value)} {st : List Value} {μ : Mem} {r : Nat} (hM : M.1.cls = RX9) (ho : kd o = 9) (hr : rf o 0 = r) (hd : decode M.2.1 pc = .ok (.getfield 37, 3)) (h : Ex E M Q (pc + 3) ls (.ref r :: st) μ) : Ex E M Q pc ls (.ref o :: st) μ :=
  x_get (ci := 9) (k := 0) ho (by decide) rfl iG9 (by decide) (by rw [ln9 o ho]; decide) (by rw [hM]; exact fl9_0) (by unfold fp; rw [ho, hr]; rfl) hd h
set_option maxRecDepth 20000 in
theorem fl11_0 : Cond.fieldLink RX11 7 (TX11 0).1 (TX11 0).2.1 (TX11 0).2.2.1 ∈ tbG := tbk5 64 rfl rfl
theorem gf11_0 {E : EV} {M : MT} {Q : Po} {pc o : Nat} {ls : List (Nat × Value)} {st : List Value} {μ : Mem} {r : Nat} (hM : M.1.cls = RX11) (ho : kd o = 11) (hr : rf o 0 = r) (hd : decode M.2.1 pc = .ok (.getfield 7, 3)) (h : Ex E M Q (pc + 3) ls (.ref r :: st) μ) : Ex E M Q pc ls (.ref o :: st) μ :=
  x_get (ci := 11) (k := 0) ho (by decide) rfl iG11 (by decide) (by rw [ln11 o ho]; decide) (by rw [hM]; exact fl11_0) (by unfold fp; rw [ho, hr]; rfl) hd h
set_option maxRecDepth 20000 in
theorem fl11_1 : Cond.fieldLink RX11 13 (TX11 1).1 (TX11 1).2.1 (TX11 1).2.2.1 ∈ tbG := tbk5 65 rfl rfl
theorem gf11_1 {E : EV} {M : MT} {Q : Po} {pc o : Nat} {ls : List (Nat × Value)} {st : List Value} {μ : Mem} {r : Nat} (hM : M.1.cls = RX11) (ho : kd o = 11) (hr : rf o 1 = r) (hd : decode M.2.1 pc = .ok (.getfield 13, 3)) (h : Ex E M Q (pc + 3) ls (.ref r :: st) μ) : Ex E M Q pc ls (.ref o :: st) μ :=
  x_get (ci := 11) (k := 1) ho (by decide) rfl iG11 (by decide) (by rw [ln11 o ho]; decide) (by rw [hM]; exact fl11_1) (by unfold fp; rw [ho, hr]; rfl) hd h
set_option maxRecDepth 20000 in
theorem fl11_2 : Cond.fieldLink RX11 16 (TX11 2).1 (TX11 2).2.1 (TX11 2).2.2.1 ∈ tbG := tbk5 66 rfl rfl
theorem gf11_2 {E : EV} {M : MT} {Q : Po} {pc o : Nat} {ls : List (Nat × Value)} {st : List Value} {μ : Mem} {r : Nat} (hM : M.1.cls = RX11) (ho : kd o = 11) (hr : rf o 2 = r) (hd : decode M.2.1 pc = .ok (.getfield 16, 3)) (h : Ex E M Q (pc + 3) ls (.ref r :: st) μ) : Ex E M Q pc ls (.ref o :: st) μ :=
  x_get (ci := 11) (k := 2) ho (by decide) rfl iG11 (by decide) (by rw [ln11 o ho]; decide) (by rw [hM]; exact fl11_2) (by unfold fp; rw [ho, hr]; rfl) hd h
set_option maxRecDepth 20000 in
theorem fl11_3 : Cond.fieldLink RX11 19 (TX11 3).1 (TX11 3).2.1 (TX11 3).2.2.1 ∈ tbG := tbk5 67 rfl rfl
theorem gf11_3 {E : EV} {M : MT} {Q : Po} {pc o : Nat} {ls : List (Nat × Value)} {st : List Value} {μ : Mem} {r : Nat} (hM : M.1.cls = RX11) (ho : kd o = 11) (hr : rf o 3 = r) (hd : decode M.2.1 pc = .ok (.getfield 19, 3)) (h : Ex E M Q (pc + 3) ls (.ref r :: st) μ) : Ex E M Q pc ls (.ref o :: st) μ :=
  x_get (ci := 11) (k := 3) ho (by decide) rfl iG11 (by decide) (by rw [ln11 o ho]; decide) (by rw [hM]; exact fl11_3) (by unfold fp; rw [ho, hr]; rfl) hd h
set_option maxRecDepth 20000 in
theorem fl11_5 : Cond.fieldLink RX11 22 (TX11 5).1 (TX11 5).2.1 (TX11 5).2.2.1 ∈ tbG := tbk5 69 rfl rfl
theorem gf11_5 {E : EV} {M : MT} {Q : Po} {pc o : Nat} {ls : List (Nat × Value)} {st : List Value} {μ : Mem} {r : Nat} (hM : M.1.cls = RX11) (ho : kd o = 11) (hr : rf o 5 = r) (hd : decode M.2.1 pc = .ok (.getfield 22, 3)) (h : Ex E M Q (pc + 3) ls (.ref r :: st) μ) : Ex E M Q pc ls (.ref o :: st) μ :=
  x_get (ci := 11) (k := 5) ho (by decide) rfl iG11 (by decide) (by rw [ln11 o ho]; decide) (by rw [hM]; exact fl11_5) (by unfold fp; rw [ho, hr]; rfl) hd h
set_option maxRecDepth 20000 in
theorem fl11_6 : Cond.fieldLink RX11 25 (TX11 6).1 (TX11 6).2.1 (TX11 6).2.2.1 ∈ tbG := tbk5 70 rfl rfl
theorem gf11_6 {E : EV} {M : MT} {Q : Po} {pc o : Nat} {ls : List (Nat × Value)} {st : List Value} {μ : Mem} {r : Nat} (hM : M.1.cls = RX11) (ho : kd o = 11) (hr : rf o 6 = r) (hd : decode M.2.1 pc = .ok (.getfield 25, 3)) (h : Ex E M Q (pc + 3) ls (.ref r :: st) μ) : Ex E M Q pc ls (.ref o :: st) μ :=
  x_get (ci := 11) (k := 6) ho (by decide) rfl iG11 (by decide) (by rw [ln11 o ho]; decide) (by rw [hM]; exact fl11_6) (by unfold fp; rw [ho, hr]; rfl) hd h
set_option maxRecDepth 20000 in
theorem fl11_9 : Cond.fieldLink RX11 28 (TX11 9).1 (TX11 9).2.1 (TX11 9).2.2.1 ∈ tbG := tbk5 73 rfl rfl
theorem gf11_9 {E : EV} {M : MT} {Q : Po} {pc o : Nat} {ls : List (Nat × Value)} {st : List Value} {μ : Mem} {r : Nat} (hM : M.1.cls = RX11) (ho : kd o = 11) (hr : rf o 9 = r) (hd : decode M.2.1 pc = .ok (.getfield 28, 3)) (h : Ex E M Q (pc + 3) ls (.ref r :: st) μ) : Ex E M Q pc ls (.ref o :: st) μ :=
  x_get (ci := 11) (k := 9) ho (by decide) rfl iG11 (by decide) (by rw [ln11 o ho]; decide) (by rw [hM]; exact fl11_9) (by unfold fp; rw [ho, hr]; rfl) hd h
set_option maxRecDepth 20000 in
theorem fl11_10 : Cond.fieldLink RX11 31 (TX11 10).1 (TX11 10).2.1 (TX11 10).2.2.1 ∈ tbG := tbk5 74 rfl rfl
theorem gf11_10 {E : EV} {M : MT} {Q : Po} {pc o : Nat} {ls : List (Nat × Value)} {st : List Value} {μ : Mem} {r : Nat} (hM : M.1.cls = RX11) (ho : kd o = 11) (hr : rf o 10 = r) (hd : decode M.2.1 pc = .ok (.getfield 31, 3)) (h : Ex E M Q (pc + 3) ls (.ref r :: st) μ) : Ex E M Q pc ls (.ref o :: st) μ :=
  x_get (ci := 11) (k := 10) ho (by decide) rfl iG11 (by decide) (by rw [ln11 o ho]; decide) (by rw [hM]; exact fl11_10) (by unfold fp; rw [ho, hr]; rfl) hd h
set_option maxRecDepth 20000 in
theorem fl11_11 : Cond.fieldLink RX11 34 (TX11 11).1 (TX11 11).2.1 (TX11 11).2.2.1 ∈ tbG := tbk5 75 rfl rfl
theorem gf11_11 {E : EV} {M : MT} {Q : Po} {pc o : Nat} {ls : List (Nat × Value)} {st : List Value} {μ : Mem} {r : Nat} (hM : M.1.cls = RX11) (ho : kd o = 11) (hr : rf o 11 = r) (hd : decode M.2.1 pc = .ok (.getfield 34, 3)) (h : Ex E M Q (pc + 3) ls (.ref r :: st) μ) : Ex E M Q pc ls (.ref o :: st) μ :=
  x_get (ci := 11) (k := 11) ho (by decide) rfl iG11 (by decide) (by rw [ln11 o ho]; decide) (by rw [hM]; exact fl11_11) (by unfold fp; rw [ho, hr]; rfl) hd h
set_option maxRecDepth 20000 in
theorem fl11_14 : Cond.fieldLink RX11 38 (TX11 14).1 (TX11 14).2.1 (TX11 14).2.2.1 ∈ tbG := tbk5 78 rfl rfl
theorem gf11_14 {E : EV} {M : MT} {Q : Po} {pc o : Nat} {ls : List (Nat × Value)} {st : List Value} {μ : Mem} {r : Nat} (hM : M.1.cls = RX11) (ho : kd o = 11) (hr : rf o 14 = r) (hd : decode M.2.1 pc = .ok (.getfield 38, 3)) (h : Ex E M Q (pc + 3) ls (.ref r :: st) μ) : Ex E M Q pc ls (.ref o :: st) μ :=
  x_get (ci := 11) (k := 14) ho (by decide) rfl iG11 (by decide) (by rw [ln11 o ho]; decide) (by rw [hM]; exact fl11_14) (by unfold fp; rw [ho, hr]; rfl) hd h
set_option maxRecDepth 20000 in
theorem fl11_15 : Cond.fieldLink RX11 41 (TX11 15).1 (TX11 15).2.1 (TX11 15).2.2.1 ∈ tbG := tbk5 79 rfl rfl
theorem gf11_15 {E : EV} {M : MT} {Q : Po} {pc o : Nat} {ls : List (Nat × Value)} {st : List Value} {μ : Mem} {r : Nat} (hM : M.1.cls = RX11) (ho : kd o = 11) (hr : rf o 15 = r) (hd : decode M.2.1 pc = .ok (.getfield 41, 3)) (h : Ex E M Q (pc + 3) ls (.ref r :: st) μ) : Ex E M Q pc ls (.ref o :: st) μ :=
  x_get (ci := 11) (k := 15) ho (by decide) rfl iG11 (by decide) (by rw [ln11 o ho]; decide) (by rw [hM]; exact fl11_15) (by unfold fp; rw [ho, hr]; rfl) hd h
set_option maxRecDepth 20000 in
theorem fl11_17 : Cond.fieldLink RX11 44 (TX11 17).1 (TX11 17).2.1 (TX11 17).2.2.1 ∈ tbG := tbk5 81 rfl rfl
theorem gf11_17 {E : EV} {M : MT} {Q : Po} {pc o : Nat} {ls : List (Nat × Value)} {st : List Value} {μ : Mem} {r : Nat} (hM : M.1.cls = RX11) (ho : kd o = 11) (hr : rf o 17 = r) (hd : decode M.2.1 pc = .ok (.getfield 44, 3)) (h : Ex E M Q (pc + 3) ls (.ref r :: st) μ) : Ex E M Q pc ls (.ref o :: st) μ :=
  x_get (ci := 11) (k := 17) ho (by decide) rfl iG11 (by decide) (by rw [ln11 o ho]; decide) (by rw [hM]; exact fl11_17) (by unfold fp; rw [ho, hr]; rfl) hd h
set_option maxRecDepth 20000 in
theorem fl11_18 : Cond.fieldLink RX11 47 (TX11 18).1 (TX11 18).2.1 (TX11 18).2.2.1 ∈ tbG := tbk5 82 rfl rfl
theorem gf11_18 {E : EV} {M : MT} {Q : Po} {pc o : Nat} {ls : List (Nat × Value)} {st : List Value} {μ : Mem} {r : Nat} (hM : M.1.cls = RX11) (ho : kd o = 11) (hr : rf o 18 = r) (hd : decode M.2.1 pc = .ok (.getfield 47, 3)) (h : Ex E M Q (pc + 3) ls (.ref r :: st) μ) : Ex E M Q pc ls (.ref o :: st) μ :=
  x_get (ci := 11) (k := 18) ho (by decide) rfl iG11 (by decide) (by rw [ln11 o ho]; decide) (by rw [hM]; exact fl11_18) (by unfold fp; rw [ho, hr]; rfl) hd h
set_option maxRecDepth 20000 in
theorem fl11_19 : Cond.fieldLink RX11 51 (TX11 19).1 (TX11 19).2.1 (TX11 19).2.2.1 ∈ tbG := tbk5 83 rfl rfl
theorem gf11_19 {E : EV} {M : MT} {Q : Po} {pc o : Nat} {ls : List (Nat × Value)} {st : List Value} {μ : Mem} {r : Nat} (hM : M.1.cls = RX11) (ho : kd o = 11) (hr : rf o 19 = r) (hd : decode M.2.1 pc = .ok (.getfield 51, 3)) (h : Ex E M Q (pc + 3) ls (.ref r :: st) μ) : Ex E M Q pc ls (.ref o :: st) μ :=
  x_get (ci := 11) (k := 19) ho (by decide) rfl iG11 (by decide) (by rw [ln11 o ho]; decide) (by rw [hM]; exact fl11_19) (by unfold fp; rw [ho, hr]; rfl) hd h
set_option maxRecDepth 20000 in
theorem fl11_24 : Cond.fieldLink RX11 54 (TX11 24).1 (TX11 24).2.1 (TX11 24).2.2.1 ∈ tbG := tbk5 88 rfl rfl
theorem gf11_24 {E : EV} {M : MT} {Q : Po} {pc o : Nat} {ls : List (Nat × Value)} {st : List Value} {μ : Mem} {r : Nat} (hM : M.1.cls = RX11) (ho : kd o = 11) (hr : rf o 24 = r) (hd : decode M.2.1 pc = .ok (.getfield 54, 3)) (h : Ex E M Q (pc + 3) ls (.ref r :: st) μ) : Ex E M Q pc ls (.ref o :: st) μ :=
  x_get (ci := 11) (k := 24) ho (by decide) rfl iG11 (by decide) (by rw [ln11 o ho]; decide) (by rw [hM]; exact fl11_24) (by unfold fp; rw [ho, hr]; rfl) hd h
set_option maxRecDepth 20000 in
theorem fl11_25 : Cond.fieldLink RX11 57 (TX11 25).1 (TX11 25).2.1 (TX11 25).2.2.1 ∈ tbG := tbk5 89 rfl rfl
theorem gf11_25 {E : EV} {M : MT} {Q : Po} {pc o : Nat} {ls : List (Nat × Value)} {st : List Value} {μ : Mem} {r : Nat} (hM : M.1.cls = RX11) (ho : kd o = 11) (hr : rf o 25 = r) (hd : decode M.2.1 pc = .ok (.getfield 57, 3)) (h : Ex E M Q (pc + 3) ls (.ref r :: st) μ) : Ex E M Q pc ls (.ref o :: st) μ :=
  x_get (ci := 11) (k := 25) ho (by decide) rfl iG11 (by decide) (by rw [ln11 o ho]; decide) (by rw [hM]; exact fl11_25) (by unfold fp; rw [ho, hr]; rfl) hd h
set_option maxRecDepth 20000 in
theorem fl11_26 : Cond.fieldLink RX11 60 (TX11 26).1 (TX11 26).2.1 (TX11 26).2.2.1 ∈ tbG := tbk5 90 rfl rfl
theorem gf11_26 {E : EV} {M : MT} {Q : Po} {pc o : Nat} {ls : List (Nat × Value)} {st : List Value} {μ : Mem} {r : Nat} (hM : M.1.cls = RX11) (ho : kd o = 11) (hr : rf o 26 = r) (hd : decode M.2.1 pc = .ok (.getfield 60, 3)) (h : Ex E M Q (pc + 3) ls (.ref r :: st) μ) : Ex E M Q pc ls (.ref o :: st) μ :=
  x_get (ci := 11) (k := 26) ho (by decide) rfl iG11 (by decide) (by rw [ln11 o ho]; decide) (by rw [hM]; exact fl11_26) (by unfold fp; rw [ho, hr]; rfl) hd h
set_option maxRecDepth 20000 in
theorem fl11_27 : Cond.fieldLink RX11 63 (TX11 27).1 (TX11 27).2.1 (TX11 27).2.2.1 ∈ tbG := tbk5 91 rfl rfl
theorem gf11_27 {E : EV} {M : MT} {Q : Po} {pc o : Nat} {ls : List (Nat × Value)} {st : List Value} {μ : Mem} {r : Nat} (hM : M.1.cls = RX11) (ho : kd o = 11) (hr : rf o 27 = r) (hd : decode M.2.1 pc = .ok (.getfield 63, 3)) (h : Ex E M Q (pc + 3) ls (.ref r :: st) μ) : Ex E M Q pc ls (.ref o :: st) μ :=
  x_get (ci := 11) (k := 27) ho (by decide) rfl iG11 (by decide) (by rw [ln11 o ho]; decide) (by rw [hM]; exact fl11_27) (by unfold fp; rw [ho, hr]; rfl) hd h
set_option maxRecDepth 20000 in
theorem fl11_29 : Cond.fieldLink RX11 66 (TX11 29).1 (TX11 29).2.1 (TX11 29).2.2.1 ∈ tbG := tbk5 93 rfl rfl
theorem gf11_29 {E : EV} {M : MT} {Q : Po} {pc o : Nat} {ls : List (Nat × Value)} {st : List Value} {μ : Mem} {r : Nat} (hM : M.1.cls = RX11) (ho : kd o = 11) (hr : rf o 29 = r) (hd : decode M.2.1 pc = .ok (.getfield 66, 3)) (h : Ex E M Q (pc + 3) ls (.ref r :: st) μ) : Ex E M Q pc ls (.ref o :: st) μ :=
  x_get (ci := 11) (k := 29) ho (by decide) rfl iG11 (by decide) (by rw [ln11 o ho]; decide) (by rw [hM]; exact fl11_29) (by unfold fp; rw [ho, hr]; rfl) hd h
set_option maxRecDepth 20000 in
theorem fl11_30 : Cond.fieldLink RX11 69 (TX11 30).1 (TX11 30).2.1 (TX11 30).2.2.1 ∈ tbG := tbk5 94 rfl rfl
theorem gf11_30 {E : EV} {M : MT} {Q : Po} {pc o : Nat} {ls : List (Nat × Value)} {st : List Value} {μ : Mem} {r : Nat} (hM : M.1.cls = RX11) (ho : kd o = 11) (hr : rf o 30 = r) (hd : decode M.2.1 pc = .ok (.getfield 69, 3)) (h : Ex E M Q (pc + 3) ls (.ref r :: st) μ) : Ex E M Q pc ls (.ref o :: st) μ :=
  x_get (ci := 11) (k := 30) ho (by decide) rfl iG11 (by decide) (by rw [ln11 o ho]; decide) (by rw [hM]; exact fl11_30) (by unfold fp; rw [ho, hr]; rfl) hd h
set_option maxRecDepth 20000 in
theorem fl11_31 : Cond.fieldLink RX11 72 (TX11 31).1 (TX11 31).2.1 (TX11 31).2.2.1 ∈ tbG := tbk5 95 rfl rfl
theorem gf11_31 {E : EV} {M : MT} {Q : Po} {pc o : Nat} {ls : List (Nat × Value)} {st : List Value} {μ : Mem} {r : Nat} (hM : M.1.cls = RX11) (ho : kd o = 11) (hr : rf o 31 = r) (hd : decode M.2.1 pc = .ok (.getfield 72, 3)) (h : Ex E M Q (pc + 3) ls (.ref r :: st) μ) : Ex E M Q pc ls (.ref o :: st) μ :=
  x_get (ci := 11) (k := 31) ho (by decide) rfl iG11 (by decide) (by rw [ln11 o ho]; decide) (by rw [hM]; exact fl11_31) (by unfold fp; rw [ho, hr]; rfl) hd h
set_option maxRecDepth 20000 in
theorem fl11_32 : Cond.fieldLink RX11 75 (TX11 32).1 (TX11 32).2.1 (TX11 32).2.2.1 ∈ tbG := tbk5 96 rfl rfl
theorem gf11_32 {E : EV} {M : MT} {Q : Po} {pc o : Nat} {ls : List (Nat × Value)} {st : List Value} {μ : Mem} {r : Nat} (hM : M.1.cls = RX11) (ho : kd o = 11) (hr : rf o 32 = r) (hd : decode M.2.1 pc = .ok (.getfield 75, 3)) (h : Ex E M Q (pc + 3) ls (.ref r :: st) μ) : Ex E M Q pc ls (.ref o :: st) μ :=
  x_get (ci := 11) (k := 32) ho (by decide) rfl iG11 (by decide) (by rw [ln11 o ho]; decide) (by rw [hM]; exact fl11_32) (by unfold fp; rw [ho, hr]; rfl) hd h
set_option maxRecDepth 20000 in
theorem fl11_33 : Cond.fieldLink RX11 78 (TX11 33).1 (TX11 33).2.1 (TX11 33).2.2.1 ∈ tbG := tbk5 97 rfl rfl
theorem gf11_33 {E : EV} {M : MT} {Q : Po} {pc o : Nat} {ls : List (Nat × Value)} {st : List Value} {μ : Mem} {r : Nat} (hM : M.1.cls = RX11) (ho : kd o = 11) (hr : rf o 33 = r) (hd : decode M.2.1 pc = .ok (.getfield 78, 3)) (h : Ex E M Q (pc + 3) ls (.ref r :: st) μ) : Ex E M Q pc ls (.ref o :: st) μ :=
  x_get (ci := 11) (k := 33) ho (by decide) rfl iG11 (by decide) (by rw [ln11 o ho]; decide) (by rw [hM]; exact fl11_33) (by unfold fp; rw [ho, hr]; rfl) hd h
set_option maxRecDepth 20000 in
theorem fl11_34 : Cond.fieldLink RX11 81 (TX11 34).1 (TX11 34).2.1 (TX11 34).2.2.1 ∈ tbG := tbk5 98 rfl rfl
theorem gf11_34 {E : EV} {M : MT} {Q : Po} {pc o : Nat} {ls : List (Nat × Value)} {st : List Value} {μ : Mem} {r : Nat} (hM : M.1.cls = RX11) (ho : kd o = 11) (hr : rf o 34 = r) (hd : decode M.2.1 pc = .ok (.getfield 81, 3)) (h : Ex E M Q (pc + 3) ls (.ref r :: st) μ) : Ex E M Q pc ls (.ref o :: st) μ :=
  x_get (ci := 11) (k := 34) ho (by decide) rfl iG11 (by decide) (by rw [ln11 o ho]; decide) (by rw [hM]; exact fl11_34) (by unfold fp; rw [ho, hr]; rfl) hd h
set_option maxRecDepth 20000 in
theorem fl11_4 : Cond.fieldLink RX11 92 (TX11 4).1 (TX11 4).2.1 (TX11 4).2.2.1 ∈ tbG := tbk5 68 rfl rfl
theorem gf11_4 {E : EV} {M : MT} {Q : Po} {pc o : Nat} {ls : List (Nat × Value)} {st : List Value} {μ : Mem} (hM : M.1.cls = RX11) (ho : kd o = 11) (hd : decode M.2.1 pc = .ok (.getfield 92, 3)) (h : Ex E M Q (pc + 3) ls (.int (μ.1 o 4) :: st) μ) : Ex E M Q pc ls (.ref o :: st) μ :=
  x_get (ci := 11) (k := 4) ho (by decide) rfl iG11 (by decide) (by rw [ln11 o ho]; decide) (by rw [hM]; exact fl11_4) (by unfold fp; rw [ho]; rfl) hd h
theorem pf11_4 {E : EV} {M : MT} {Q : Po} {pc o : Nat} {ls : List (Nat × Value)} {st : List Value} {μ : Mem} {x : Int32} (hM : M.1.cls = RX11) (ho : kd o = 11) (hd : decode M.2.1 pc = .ok (.putfield 92, 3)) (h : Ex E M Q (pc + 3) ls st (mI μ o 4 x)) : Ex E M Q pc ls (.int x :: .ref o :: st) μ :=
  x_putI (ci := 11) (k := 4) (ty := .int) tyX11 tyX11_ok nmX11 ho (by decide) rfl iG11 (by decide) (by rw [ln11 o ho]; decide) (by rw [hM]; exact fl11_4) rfl (by decide) (by decide +kernel) rfl rfl hd h
set_option maxRecDepth 20000 in
theorem fl11_7 : Cond.fieldLink RX11 125 (TX11 7).1 (TX11 7).2.1 (TX11 7).2.2.1 ∈ tbG := tbk5 71 rfl rfl
theorem gf11_7 {E : EV} {M : MT} {Q : Po} {pc o : Nat} {ls : List (Nat × Value)} {st : List Value} {μ : Mem} (hM : M.1.cls = RX11) (ho : kd o = 11) (hd : decode M.2.1 pc = .ok (.getfield 125, 3)) (h : Ex E M Q (pc + 3) ls (.int (μ.1 o 7) :: st) μ) : Ex E M Q pc ls (.ref o :: st) μ :=
  x_get (ci := 11) (k := 7) ho (by decide) rfl iG11 (by decide) (by rw [ln11 o ho]; decide) (by rw [hM]; exact fl11_7) (by unfold fp; rw [ho]; rfl) hd h
theorem pf11_7 {E : EV} {M : MT} {Q : Po} {pc o : Nat} {ls : List (Nat × Value)} {st : List Value} {μ : Mem} {x : Int32} (hM : M.1.cls = RX11) (ho : kd o = 11) (hd : decode M.2.1 pc = .ok (.putfield 125, 3)) (h : Ex E M Q (pc + 3) ls st (mI μ o 7 x)) : Ex E M Q pc ls (.int x :: .ref o :: st) μ :=
  x_putI (ci := 11) (k := 7) (ty := .int) tyX11 tyX11_ok nmX11 ho (by decide) rfl iG11 (by decide) (by rw [ln11 o ho]; decide) (by rw [hM]; exact fl11_7) rfl (by decide) (by decide +kernel) rfl rfl hd h
set_option maxRecDepth 20000 in
theorem fl11_8 : Cond.fieldLink RX11 128 (TX11 8).1 (TX11 8).2.1 (TX11 8).2.2.1 ∈ tbG := tbk5 72 rfl rfl
theorem gf11_8 {E : EV} {M : MT} {Q : Po} {pc o : Nat} {ls : List (Nat × Value)} {st : List Value} {μ : Mem} (hM : M.1.cls = RX11) (ho : kd o = 11) (hd : decode M.2.1 pc = .ok (.getfield 128, 3)) (h : Ex E M Q (pc + 3) ls (.int (μ.1 o 8) :: st) μ) : Ex E M Q pc ls (.ref o :: st) μ :=
  x_get (ci := 11) (k := 8) ho (by decide) rfl iG11 (by decide) (by rw [ln11 o ho]; decide) (by rw [hM]; exact fl11_8) (by unfold fp; rw [ho]; rfl) hd h
theorem pf11_8 {E : EV} {M : MT} {Q : Po} {pc o : Nat} {ls : List (Nat × Value)} {st : List Value} {μ : Mem} {x : Int32} (hM : M.1.cls = RX11) (ho : kd o = 11) (hd : decode M.2.1 pc = .ok (.putfield 128, 3)) (h : Ex E M Q (pc + 3) ls st (mI μ o 8 x)) : Ex E M Q pc ls (.int x :: .ref o :: st) μ :=
  x_putI (ci := 11) (k := 8) (ty := .int) tyX11 tyX11_ok nmX11 ho (by decide) rfl iG11 (by decide) (by rw [ln11 o ho]; decide) (by rw [hM]; exact fl11_8) rfl (by decide) (by decide +kernel) rfl rfl hd h
set_option maxRecDepth 20000 in
theorem fl11_12 : Cond.fieldLink RX11 131 (TX11 12).1 (TX11 12).2.1 (TX11 12).2.2.1 ∈ tbG := tbk5 76 rfl rfl
theorem gf11_12 {E : EV} {M : MT} {Q : Po} {pc o : Nat} {ls : List (Nat × Value)} {st : List Value} {μ : Mem} (hM : M.1.cls = RX11) (ho : kd o = 11) (hd : decode M.2.1 pc = .ok (.getfield 131, 3)) (h : Ex E M Q (pc + 3) ls (.int (μ.1 o 12) :: st) μ) : Ex E M Q pc ls (.ref o :: st) μ :=
  x_get (ci := 11) (k := 12) ho (by decide) rfl iG11 (by decide) (by rw [ln11 o ho]; decide) (by rw [hM]; exact fl11_12) (by unfold fp; rw [ho]; rfl) hd h
theorem pf11_12 {E : EV} {M : MT} {Q : Po} {pc o : Nat} {ls : List (Nat × Value)} {st : List Value} {μ : Mem} {x : Int32} (hM : M.1.cls = RX11) (ho : kd o = 11) (hd : decode M.2.1 pc = .ok (.putfield 131, 3)) (h : Ex E M Q (pc + 3) ls st (mI μ o 12 x)) : Ex E M Q pc ls (.int x :: .ref o :: st) μ :=
  x_putI (ci := 11) (k := 12) (ty := .int) tyX11 tyX11_ok nmX11 ho (by decide) rfl iG11 (by decide) (by rw [ln11 o ho]; decide) (by rw [hM]; exact fl11_12) rfl (by decide) (by decide +kernel) rfl rfl hd h
set_option maxRecDepth 20000 in
theorem fl11_13 : Cond.fieldLink RX11 169 (TX11 13).1 (TX11 13).2.1 (TX11 13).2.2.1 ∈ tbG := tbk5 77 rfl rfl
theorem gf11_13 {E : EV} {M : MT} {Q : Po} {pc o : Nat} {ls : List (Nat × Value)} {st : List Value} {μ : Mem} (hM : M.1.cls = RX11) (ho : kd o = 11) (hd : decode M.2.1 pc = .ok (.getfield 169, 3)) (h : Ex E M Q (pc + 3) ls (.int (μ.1 o 13) :: st) μ) : Ex E M Q pc ls (.ref o :: st) μ :=
  x_get (ci := 11) (k := 13) ho (by decide) rfl iG11 (by decide) (by rw [ln11 o ho]; decide) (by rw [hM]; exact fl11_13) (by unfold fp; rw [ho]; rfl) hd h
theorem pf11_13 {E : EV} {M : MT} {Q : Po} {pc o : Nat} {ls : List (Nat × Value)} {st : List Value} {μ : Mem} {x : Int32} (hM : M.1.cls = RX11) (ho : kd o = 11) (hd : decode M.2.1 pc = .ok (.putfield 169, 3)) (h : Ex E M Q (pc + 3) ls st (mI μ o 13 x)) : Ex E M Q pc ls (.int x :: .ref o :: st) μ :=
  x_putI (ci := 11) (k := 13) (ty := .int) tyX11 tyX11_ok nmX11 ho (by decide) rfl iG11 (by decide) (by rw [ln11 o ho]; decide) (by rw [hM]; exact fl11_13) rfl (by decide) (by decide +kernel) rfl rfl hd h
set_option maxRecDepth 20000 in
theorem fl11_16 : Cond.fieldLink RX11 180 (TX11 16).1 (TX11 16).2.1 (TX11 16).2.2.1 ∈ tbG := tbk5 80 rfl rfl
theorem gf11_16 {E : EV} {M : MT} {Q : Po} {pc o : Nat} {ls : List (Nat × Value)} {st : List Value} {μ : Mem} (hM : M.1.cls = RX11) (ho : kd o = 11) (hd : decode M.2.1 pc = .ok (.getfield 180, 3)) (h : Ex E M Q (pc + 3) ls (.int (μ.1 o 16) :: st) μ) : Ex E M Q pc ls (.ref o :: st) μ :=
  x_get (ci := 11) (k := 16) ho (by decide) rfl iG11 (by decide) (by rw [ln11 o ho]; decide) (by rw [hM]; exact fl11_16) (by unfold fp; rw [ho]; rfl) hd h
theorem pf11_16 {E : EV} {M : MT} {Q : Po} {pc o : Nat} {ls : List (Nat × Value)} {st : List Value} {μ : Mem} {x : Int32} (hM : M.1.cls = RX11) (ho : kd o = 11) (hd : decode M.2.1 pc = .ok (.putfield 180, 3)) (h : Ex E M Q (pc + 3) ls st (mI μ o 16 x)) : Ex E M Q pc ls (.int x :: .ref o :: st) μ :=
  x_putI (ci := 11) (k := 16) (ty := .int) tyX11 tyX11_ok nmX11 ho (by decide) rfl iG11 (by decide) (by rw [ln11 o ho]; decide) (by rw [hM]; exact fl11_16) rfl (by decide) (by decide +kernel) rfl rfl hd h
set_option maxRecDepth 20000 in
theorem fl11_20 : Cond.fieldLink RX11 223 (TX11 20).1 (TX11 20).2.1 (TX11 20).2.2.1 ∈ tbG := tbk5 84 rfl rfl
theorem gf11_20 {E : EV} {M : MT} {Q : Po} {pc o : Nat} {ls : List (Nat × Value)} {st : List Value} {μ : Mem} (hM : M.1.cls = RX11) (ho : kd o = 11) (hd : decode M.2.1 pc = .ok (.getfield 223, 3)) (h : Ex E M Q (pc + 3) ls (.int (μ.1 o 20) :: st) μ) : Ex E M Q pc ls (.ref o :: st) μ :=
  x_get (ci := 11) (k := 20) ho (by decide) rfl iG11 (by decide) (by rw [ln11 o ho]; decide) (by rw [hM]; exact fl11_20) (by unfold fp; rw [ho]; rfl) hd h
theorem pf11_20 {E : EV} {M : MT} {Q : Po} {pc o : Nat} {ls : List (Nat × Value)} {st : List Value} {μ : Mem} {x : Int32} (hM : M.1.cls = RX11) (ho : kd o = 11) (hd : decode M.2.1 pc = .ok (.putfield 223, 3)) (h : Ex E M Q (pc + 3) ls st (mI μ o 20 x)) : Ex E M Q pc ls (.int x :: .ref o :: st) μ :=
  x_putI (ci := 11) (k := 20) (ty := .int) tyX11 tyX11_ok nmX11 ho (by decide) rfl iG11 (by decide) (by rw [ln11 o ho]; decide) (by rw [hM]; exact fl11_20) rfl (by decide) (by decide +kernel) rfl rfl hd h
set_option maxRecDepth 20000 in
theorem fl11_21 : Cond.fieldLink RX11 232 (TX11 21).1 (TX11 21).2.1 (TX11 21).2.2.1 ∈ tbG := tbk5 85 rfl rfl
theorem gf11_21 {E : EV} {M : MT} {Q : Po} {pc o : Nat} {ls : List (Nat × Value)} {st : List Value} {μ : Mem} (hM : M.1.cls = RX11) (ho : kd o = 11) (hd : decode M.2.1 pc = .ok (.getfield 232, 3)) (h : Ex E M Q (pc + 3) ls (.int (μ.1 o 21) :: st) μ) : Ex E M Q pc ls (.ref o :: st) μ :=
  x_get (ci := 11) (k := 21) ho (by decide) rfl iG11 (by decide) (by rw [ln11 o ho]; decide) (by rw [hM]; exact fl11_21) (by unfold fp; rw [ho]; rfl) hd h
theorem pf11_21 {E : EV} {M : MT} {Q : Po} {pc o : Nat} {ls : List (Nat × Value)} {st : List Value} {μ : Mem} {x : Int32} (hM : M.1.cls = RX11) (ho : kd o = 11) (hd : decode M.2.1 pc = .ok (.putfield 232, 3)) (h : Ex E M Q (pc + 3) ls st (mI μ o 21 x)) : Ex E M Q pc ls (.int x :: .ref o :: st) μ :=
  x_putI (ci := 11) (k := 21) (ty := .int) tyX11 tyX11_ok nmX11 ho (by decide) rfl iG11 (by decide) (by rw [ln11 o ho]; decide) (by rw [hM]; exact fl11_21) rfl (by decide) (by decide +kernel) rfl rfl hd h
set_option maxRecDepth 20000 in
theorem fl11_23 : Cond.fieldLink RX11 235 (TX11 23).1 (TX11 23).2.1 (TX11 23).2.2.1 ∈ tbG := tbk5 87 rfl rfl
theorem gf11_23 {E : EV} {M : MT} {Q : Po} {pc o : Nat} {ls : List (Nat × Value)} {st : List Value} {μ : Mem} (hM : M.1.cls = RX11) (ho : kd o = 11) (hd : decode M.2.1 pc = .ok (.getfield 235, 3)) (h : Ex E M Q (pc + 3) ls (.int (μ.1 o 23) :: st) μ) : Ex E M Q pc ls (.ref o :: st) μ :=
  x_get (ci := 11) (k := 23) ho (by decide) rfl iG11 (by decide) (by rw [ln11 o ho]; decide) (by rw [hM]; exact fl11_23) (by unfold fp; rw [ho]; rfl) hd h
theorem pf11_23 {E : EV} {M : MT} {Q : Po} {pc o : Nat} {ls : List (Nat × Value)} {st : List Value} {μ : Mem} {x : Int32} (hM : M.1.cls = RX11) (ho : kd o = 11) (hx : x = 0 ∨ x = 1) (hd : decode M.2.1 pc = .ok (.putfield 235, 3)) (h : Ex E M Q (pc + 3) ls st (mI μ o 23 x)) : Ex E M Q pc ls (.int x :: .ref o :: st) μ :=
  x_putI (ci := 11) (k := 23) (ty := .boolean) tyX11 tyX11_ok nmX11 ho (by decide) rfl iG11 (by decide) (by rw [ln11 o ho]; decide) (by rw [hM]; exact fl11_23) rfl (by decide) (by decide +kernel) (by rcases hx with rfl | rfl <;> rfl) (by rcases hx with rfl | rfl <;> rfl) hd h
set_option maxRecDepth 20000 in
theorem fl11_22 : Cond.fieldLink RX11 239 (TX11 22).1 (TX11 22).2.1 (TX11 22).2.2.1 ∈ tbG := tbk5 86 rfl rfl
theorem gf11_22 {E : EV} {M : MT} {Q : Po} {pc o : Nat} {ls : List (Nat × Value)} {st : List Value} {μ : Mem} (hM : M.1.cls = RX11) (ho : kd o = 11) (hd : decode M.2.1 pc = .ok (.getfield 239, 3)) (h : Ex E M Q (pc + 3) ls (.long (μ.2 o 22) :: st) μ) : Ex E M Q pc ls (.ref o :: st) μ :=
  x_get (ci := 11) (k := 22) ho (by decide) rfl iG11 (by decide) (by rw [ln11 o ho]; decide) (by rw [hM]; exact fl11_22) (by unfold fp; rw [ho]; rfl) hd h
theorem pf11_22 {E : EV} {M : MT} {Q : Po} {pc o : Nat} {ls : List (Nat × Value)} {st : List Value} {μ : Mem} {x : Int64} (hM : M.1.cls = RX11) (ho : kd o = 11) (hd : decode M.2.1 pc = .ok (.putfield 239, 3)) (h : Ex E M Q (pc + 3) ls st (mJ μ o 22 x)) : Ex E M Q pc ls (.long x :: .ref o :: st) μ :=
  x_putJ (ci := 11) (k := 22) (ty := .long) tyX11 tyX11_ok nmX11 ho (by decide) rfl iG11 (by decide) (by rw [ln11 o ho]; decide) (by rw [hM]; exact fl11_22) rfl (by decide) (by decide +kernel) rfl rfl hd h
set_option maxRecDepth 20000 in
theorem fl11_28 : Cond.fieldLink RX11 304 (TX11 28).1 (TX11 28).2.1 (TX11 28).2.2.1 ∈ tbG := tbk5 92 rfl rfl
theorem gf11_28 {E : EV} {M : MT} {Q : Po} {pc o : Nat} {ls : List (Nat × Value)} {st : List Value} {μ : Mem} (hM : M.1.cls = RX11) (ho : kd o = 11) (hd : decode M.2.1 pc = .ok (.getfield 304, 3)) (h : Ex E M Q (pc + 3) ls (.int (μ.1 o 28) :: st) μ) : Ex E M Q pc ls (.ref o :: st) μ :=
  x_get (ci := 11) (k := 28) ho (by decide) rfl iG11 (by decide) (by rw [ln11 o ho]; decide) (by rw [hM]; exact fl11_28) (by unfold fp; rw [ho]; rfl) hd h
theorem pf11_28 {E : EV} {M : MT} {Q : Po} {pc o : Nat} {ls : List (Nat × Value)} {st : List Value} {μ : Mem} {x : Int32} (hM : M.1.cls = RX11) (ho : kd o = 11) (hd : decode M.2.1 pc = .ok (.putfield 304, 3)) (h : Ex E M Q (pc + 3) ls st (mI μ o 28 x)) : Ex E M Q pc ls (.int x :: .ref o :: st) μ :=
  x_putI (ci := 11) (k := 28) (ty := .int) tyX11 tyX11_ok nmX11 ho (by decide) rfl iG11 (by decide) (by rw [ln11 o ho]; decide) (by rw [hM]; exact fl11_28) rfl (by decide) (by decide +kernel) rfl rfl hd h
end
section
theorem nh0 : "StampsCancel" ≠ "java/lang/invoke/MethodHandle" ∧ "StampsCancel" ≠ "java/lang/invoke/VarHandle" := by decide +kernel
set_option maxRecDepth 20000 in
theorem wi0 : Cond.initialized "StampsCancel" ∈ tbG := tbk1 1 rfl rfl
theorem nh1 : "StampsCancel$Distances" ≠ "java/lang/invoke/MethodHandle" ∧ "StampsCancel$Distances" ≠ "java/lang/invoke/VarHandle" := by decide +kernel
set_option maxRecDepth 20000 in
theorem wi1 : Cond.initialized "StampsCancel$Distances" ∈ tbG := tbk1 6 rfl rfl
theorem nh2 : "StampsCancel$Errands" ≠ "java/lang/invoke/MethodHandle" ∧ "StampsCancel$Errands" ≠ "java/lang/invoke/VarHandle" := by decide +kernel
set_option maxRecDepth 20000 in
theorem wi2 : Cond.initialized "StampsCancel$Errands" ∈ tbG := tbk1 7 rfl rfl
theorem nh3 : "StampsCancel$Judge" ≠ "java/lang/invoke/MethodHandle" ∧ "StampsCancel$Judge" ≠ "java/lang/invoke/VarHandle" := by decide +kernel
set_option maxRecDepth 20000 in
theorem wi3 : Cond.initialized "StampsCancel$Judge" ∈ tbG := tbk1 4 rfl rfl
theorem nh4 : "StampsCancel$Land" ≠ "java/lang/invoke/MethodHandle" ∧ "StampsCancel$Land" ≠ "java/lang/invoke/VarHandle" := by decide +kernel
set_option maxRecDepth 20000 in
theorem wi4 : Cond.initialized "StampsCancel$Land" ∈ tbG := tbk1 2 rfl rfl
theorem nh5 : "StampsCancel$Listing" ≠ "java/lang/invoke/MethodHandle" ∧ "StampsCancel$Listing" ≠ "java/lang/invoke/VarHandle" := by decide +kernel
set_option maxRecDepth 20000 in
theorem wi5 : Cond.initialized "StampsCancel$Listing" ∈ tbG := tbk1 9 rfl rfl
theorem nh6 : "StampsCancel$Paper" ≠ "java/lang/invoke/MethodHandle" ∧ "StampsCancel$Paper" ≠ "java/lang/invoke/VarHandle" := by decide +kernel
set_option maxRecDepth 20000 in
theorem wi6 : Cond.initialized "StampsCancel$Paper" ∈ tbG := tbk1 3 rfl rfl
theorem nh7 : "StampsCancel$Route" ≠ "java/lang/invoke/MethodHandle" ∧ "StampsCancel$Route" ≠ "java/lang/invoke/VarHandle" := by decide +kernel
set_option maxRecDepth 20000 in
theorem wi7 : Cond.initialized "StampsCancel$Route" ∈ tbG := tbk1 5 rfl rfl
theorem nh8 : "StampsCancel$Sheets" ≠ "java/lang/invoke/MethodHandle" ∧ "StampsCancel$Sheets" ≠ "java/lang/invoke/VarHandle" := by decide +kernel
set_option maxRecDepth 20000 in
theorem wi8 : Cond.initialized "StampsCancel$Sheets" ∈ tbG := tbk1 10 rfl rfl
theorem nh9 : "StampsCancel$Text" ≠ "java/lang/invoke/MethodHandle" ∧ "StampsCancel$Text" ≠ "java/lang/invoke/VarHandle" := by decide +kernel
set_option maxRecDepth 20000 in
theorem wi9 : Cond.initialized "StampsCancel$Text" ∈ tbG := tbk1 12 rfl rfl
theorem nh10 : "StampsCancel$Walks" ≠ "java/lang/invoke/MethodHandle" ∧ "StampsCancel$Walks" ≠ "java/lang/invoke/VarHandle" := by decide +kernel
set_option maxRecDepth 20000 in
theorem wi10 : Cond.initialized "StampsCancel$Walks" ∈ tbG := tbk1 8 rfl rfl
theorem nh11 : "StampsCancelLaw" ≠ "java/lang/invoke/MethodHandle" ∧ "StampsCancelLaw" ≠ "java/lang/invoke/VarHandle" := by decide +kernel
set_option maxRecDepth 20000 in
theorem wi11 : Cond.initialized "StampsCancelLaw" ∈ tbG := tbk1 0 rfl rfl
theorem nh12 : "StampsCancelModel" ≠ "java/lang/invoke/MethodHandle" ∧ "StampsCancelModel" ≠ "java/lang/invoke/VarHandle" := by decide +kernel
set_option maxRecDepth 20000 in
theorem wi12 : Cond.initialized "StampsCancelModel" ∈ tbG := tbk1 14 rfl rfl
theorem nh13 : "java/lang/Integer" ≠ "java/lang/invoke/MethodHandle" ∧ "java/lang/Integer" ≠ "java/lang/invoke/VarHandle" := by decide +kernel
set_option maxRecDepth 20000 in
theorem wi13 : Cond.initialized "java/lang/Integer" ∈ tbG := tbk1 16 rfl rfl
theorem nh14 : "java/lang/Math" ≠ "java/lang/invoke/MethodHandle" ∧ "java/lang/Math" ≠ "java/lang/invoke/VarHandle" := by decide +kernel
set_option maxRecDepth 20000 in
theorem wi14 : Cond.initialized "java/lang/Math" ∈ tbG := tbk1 13 rfl rfl
theorem nh15 : "java/lang/System" ≠ "java/lang/invoke/MethodHandle" ∧ "java/lang/System" ≠ "java/lang/invoke/VarHandle" := by decide +kernel
set_option maxRecDepth 20000 in
theorem wi15 : Cond.initialized "java/lang/System" ∈ tbG := tbk1 15 rfl rfl
theorem nh16 : "java/util/Arrays" ≠ "java/lang/invoke/MethodHandle" ∧ "java/util/Arrays" ≠ "java/lang/invoke/VarHandle" := by decide +kernel
set_option maxRecDepth 20000 in
theorem wi16 : Cond.initialized "java/util/Arrays" ∈ tbG := tbk1 11 rfl rfl
set_option maxRecDepth 20000 in
theorem wcJ7_fill_53178 : Cond.code MJ7_fill_53178.1 MJ7_fill_53178.2.1 MJ7_fill_53178.2.2.1 MJ7_fill_53178.2.2.2.1 ∈ tbG := tbk1 223 rfl rfl
set_option maxRecDepth 20000 in
theorem wsJ7_fill_53178 : Cond.static yJ7_fill_53178 ∈ tbG := tbk1 222 rfl rfl
set_option maxRecDepth 20000 in
theorem wcX3_gatesTold : Cond.code MX3_gatesTold.1 MX3_gatesTold.2.1 MX3_gatesTold.2.2.1 MX3_gatesTold.2.2.2.1 ∈ tbG := tbk3 64 rfl rfl
set_option maxRecDepth 20000 in
theorem wnX3_gatesTold : Cond.instanceMethod yX3_gatesTold ∈ tbG := tbk3 62 rfl rfl
set_option maxRecDepth 20000 in
theorem weX3_gatesTold : Cond.selects RX3 yX3_gatesTold yX3_gatesTold ∈ tbG := tbk3 63 rfl rfl
set_option maxRecDepth 20000 in
theorem wcX3_from : Cond.code MX3_from.1 MX3_from.2.1 MX3_from.2.2.1 MX3_from.2.2.2.1 ∈ tbG := tbk2 142 rfl rfl
set_option maxRecDepth 20000 in
theorem wnX3_from : Cond.instanceMethod yX3_from ∈ tbG := tbk2 140 rfl rfl
set_option maxRecDepth 20000 in
theorem weX3_from : Cond.selects RX3 yX3_from yX3_from ∈ tbG := tbk2 141 rfl rfl
set_option maxRecDepth 20000 in
theorem wcX3_to : Cond.code MX3_to.1 MX3_to.2.1 MX3_to.2.2.1 MX3_to.2.2.2.1 ∈ tbG := tbk2 146 rfl rfl
set_option maxRecDepth 20000 in
theorem wnX3_to : Cond.instanceMethod yX3_to ∈ tbG := tbk2 144 rfl rfl
set_option maxRecDepth 20000 in
theorem weX3_to : Cond.selects RX3 yX3_to yX3_to ∈ tbG := tbk2 145 rfl rfl
set_option maxRecDepth 20000 in
theorem wcX0_link : Cond.code MX0_link.1 MX0_link.2.1 MX0_link.2.2.1 MX0_link.2.2.2.1 ∈ tbG := tbk3 70 rfl rfl
set_option maxRecDepth 20000 in
theorem wnX0_link : Cond.instanceMethod yX0_link ∈ tbG := tbk3 69 rfl rfl
theorem weX0_link : Cond.selects RX0 yX0_link yX0_link ∈ tbG := tb_ps 12 (by decide +kernel) rfl
set_option maxRecDepth 20000 in
theorem wcX0_layOut : Cond.code MX0_layOut.1 MX0_layOut.2.1 MX0_layOut.2.2.1 MX0_layOut.2.2.2.1 ∈ tbG := tbk3 59 rfl rfl
set_option maxRecDepth 20000 in
theorem wnX0_layOut : Cond.instanceMethod yX0_layOut ∈ tbG := tbk3 58 rfl rfl
theorem weX0_layOut : Cond.selects RX0 yX0_layOut yX0_layOut ∈ tbG := tb_ps 11 (by decide +kernel) rfl
set_option maxRecDepth 20000 in
theorem wcX0_spread : Cond.code MX0_spread.1 MX0_spread.2.1 MX0_spread.2.2.1 MX0_spread.2.2.2.1 ∈ tbG := tbk3 74 rfl rfl
set_option maxRecDepth 20000 in
theorem wnX0_spread : Cond.instanceMethod yX0_spread ∈ tbG := tbk3 73 rfl rfl
theorem weX0_spread : Cond.selects RX0 yX0_spread yX0_spread ∈ tbG := tb_ps 13 (by decide +kernel) rfl
set_option maxRecDepth 20000 in
theorem wcX0_measure : Cond.code MX0_measure.1 MX0_measure.2.1 MX0_measure.2.2.1 MX0_measure.2.2.2.1 ∈ tbG := tbk3 55 rfl rfl
set_option maxRecDepth 20000 in
theorem wnX0_measure : Cond.instanceMethod yX0_measure ∈ tbG := tbk3 53 rfl rfl
set_option maxRecDepth 20000 in
theorem weX0_measure : Cond.selects RX0 yX0_measure yX0_measure ∈ tbG := tbk3 54 rfl rfl
set_option maxRecDepth 20000 in
theorem wcX0_measureLinked : Cond.code MX0_measureLinked.1 MX0_measureLinked.2.1 MX0_measureLinked.2.2.1 MX0_measureLinked.2.2.2.1 ∈ tbG := tbk4 186 rfl rfl
set_option maxRecDepth 20000 in
theorem wnX0_measureLinked : Cond.instanceMethod yX0_measureLinked ∈ tbG := tbk4 184 rfl rfl
set_option maxRecDepth 20000 in
theorem weX0_measureLinked : Cond.selects RX0 yX0_measureLinked yX0_measureLinked ∈ tbG := tbk4 185 rfl rfl
set_option maxRecDepth 20000 in
theorem wcX10_isTown : Cond.code MX10_isTown.1 MX10_isTown.2.1 MX10_isTown.2.2.1 MX10_isTown.2.2.2.1 ∈ tbG := tbk2 211 rfl rfl
set_option maxRecDepth 20000 in
theorem wsX10_isTown : Cond.static yX10_isTown ∈ tbG := tbk2 210 rfl rfl
set_option maxRecDepth 20000 in
theorem wcX0_measureFrom : Cond.code MX0_measureFrom.1 MX0_measureFrom.2.1 MX0_measureFrom.2.2.1 MX0_measureFrom.2.2.2.1 ∈ tbG := tbk4 160 rfl rfl
set_option maxRecDepth 20000 in
theorem wnX0_measureFrom : Cond.instanceMethod yX0_measureFrom ∈ tbG := tbk4 158 rfl rfl
set_option maxRecDepth 20000 in
theorem weX0_measureFrom : Cond.selects RX0 yX0_measureFrom yX0_measureFrom ∈ tbG := tbk4 159 rfl rfl
set_option maxRecDepth 20000 in
theorem wcX0_between : Cond.code MX0_between.1 MX0_between.2.1 MX0_between.2.2.1 MX0_between.2.2.2.1 ∈ tbG := tbk3 103 rfl rfl
set_option maxRecDepth 20000 in
theorem wnX0_between : Cond.instanceMethod yX0_between ∈ tbG := tbk3 101 rfl rfl
set_option maxRecDepth 20000 in
theorem weX0_between : Cond.selects RX0 yX0_between yX0_between ∈ tbG := tbk3 102 rfl rfl
set_option maxRecDepth 20000 in
theorem wcX0_reachedFrom : Cond.code MX0_reachedFrom.1 MX0_reachedFrom.2.1 MX0_reachedFrom.2.2.1 MX0_reachedFrom.2.2.2.1 ∈ tbG := tbk3 213 rfl rfl
set_option maxRecDepth 20000 in
theorem wnX0_reachedFrom : Cond.instanceMethod yX0_reachedFrom ∈ tbG := tbk3 211 rfl rfl
set_option maxRecDepth 20000 in
theorem weX0_reachedFrom : Cond.selects RX0 yX0_reachedFrom yX0_reachedFrom ∈ tbG := tbk3 212 rfl rfl
set_option maxRecDepth 20000 in
theorem wcX0_pairsUnlike : Cond.code MX0_pairsUnlike.1 MX0_pairsUnlike.2.1 MX0_pairsUnlike.2.2.1 MX0_pairsUnlike.2.2.2.1 ∈ tbG := tbk4 170 rfl rfl
set_option maxRecDepth 20000 in
theorem wnX0_pairsUnlike : Cond.instanceMethod yX0_pairsUnlike ∈ tbG := tbk4 168 rfl rfl
set_option maxRecDepth 20000 in
theorem weX0_pairsUnlike : Cond.selects RX0 yX0_pairsUnlike yX0_pairsUnlike ∈ tbG := tbk4 169 rfl rfl
set_option maxRecDepth 20000 in
theorem wcJ9_abs_0f7a4 : Cond.code MJ9_abs_0f7a4.1 MJ9_abs_0f7a4.2.1 MJ9_abs_0f7a4.2.2.1 MJ9_abs_0f7a4.2.2.2.1 ∈ tbG := tbk4 177 rfl rfl
set_option maxRecDepth 20000 in
theorem wsJ9_abs_0f7a4 : Cond.static yJ9_abs_0f7a4 ∈ tbG := tbk4 176 rfl rfl
set_option maxRecDepth 20000 in
theorem wcJ9_max_7cf53 : Cond.code MJ9_max_7cf53.1 MJ9_max_7cf53.2.1 MJ9_max_7cf53.2.2.1 MJ9_max_7cf53.2.2.2.1 ∈ tbG := tbk3 12 rfl rfl
set_option maxRecDepth 20000 in
theorem wsJ9_max_7cf53 : Cond.static yJ9_max_7cf53 ∈ tbG := tbk3 11 rfl rfl
set_option maxRecDepth 20000 in
theorem wcX0_mostUnlike : Cond.code MX0_mostUnlike.1 MX0_mostUnlike.2.1 MX0_mostUnlike.2.2.1 MX0_mostUnlike.2.2.2.1 ∈ tbG := tbk4 174 rfl rfl
set_option maxRecDepth 20000 in
theorem wnX0_mostUnlike : Cond.instanceMethod yX0_mostUnlike ∈ tbG := tbk4 172 rfl rfl
set_option maxRecDepth 20000 in
theorem weX0_mostUnlike : Cond.selects RX0 yX0_mostUnlike yX0_mostUnlike ∈ tbG := tbk4 173 rfl rfl
set_option maxRecDepth 20000 in
theorem wcX3_openLanes : Cond.code MX3_openLanes.1 MX3_openLanes.2.1 MX3_openLanes.2.2.1 MX3_openLanes.2.2.2.1 ∈ tbG := tbk3 51 rfl rfl
set_option maxRecDepth 20000 in
theorem wnX3_openLanes : Cond.instanceMethod yX3_openLanes ∈ tbG := tbk3 49 rfl rfl
set_option maxRecDepth 20000 in
theorem weX3_openLanes : Cond.selects RX3 yX3_openLanes yX3_openLanes ∈ tbG := tbk3 50 rfl rfl
set_option maxRecDepth 20000 in
theorem wcX1_setOut : Cond.code MX1_setOut.1 MX1_setOut.2.1 MX1_setOut.2.2.1 MX1_setOut.2.2.2.1 ∈ tbG := tbk3 161 rfl rfl
set_option maxRecDepth 20000 in
theorem wnX1_setOut : Cond.instanceMethod yX1_setOut ∈ tbG := tbk3 160 rfl rfl
theorem weX1_setOut : Cond.selects RX1 yX1_setOut yX1_setOut ∈ tbG := tb_ps 23 (by decide +kernel) rfl
set_option maxRecDepth 20000 in
theorem wcX3_roomTold : Cond.code MX3_roomTold.1 MX3_roomTold.2.1 MX3_roomTold.2.2.1 MX3_roomTold.2.2.2.1 ∈ tbG := tbk2 162 rfl rfl
set_option maxRecDepth 20000 in
theorem wnX3_roomTold : Cond.instanceMethod yX3_roomTold ∈ tbG := tbk2 160 rfl rfl
set_option maxRecDepth 20000 in
theorem weX3_roomTold : Cond.selects RX3 yX3_roomTold yX3_roomTold ∈ tbG := tbk2 161 rfl rfl
set_option maxRecDepth 20000 in
theorem wcX1_reached : Cond.code MX1_reached.1 MX1_reached.2.1 MX1_reached.2.2.1 MX1_reached.2.2.2.1 ∈ tbG := tbk3 169 rfl rfl
set_option maxRecDepth 20000 in
theorem wnX1_reached : Cond.instanceMethod yX1_reached ∈ tbG := tbk3 168 rfl rfl
theorem weX1_reached : Cond.selects RX1 yX1_reached yX1_reached ∈ tbG := tb_ps 24 (by decide +kernel) rfl
set_option maxRecDepth 20000 in
theorem wcX3_letters : Cond.code MX3_letters.1 MX3_letters.2.1 MX3_letters.2.2.1 MX3_letters.2.2.2.1 ∈ tbG := tbk3 125 rfl rfl
set_option maxRecDepth 20000 in
theorem wnX3_letters : Cond.instanceMethod yX3_letters ∈ tbG := tbk3 123 rfl rfl
set_option maxRecDepth 20000 in
theorem weX3_letters : Cond.selects RX3 yX3_letters yX3_letters ∈ tbG := tbk3 124 rfl rfl
set_option maxRecDepth 20000 in
theorem wcX3_isOpen : Cond.code MX3_isOpen.1 MX3_isOpen.2.1 MX3_isOpen.2.2.1 MX3_isOpen.2.2.2.1 ∈ tbG := tbk2 154 rfl rfl
set_option maxRecDepth 20000 in
theorem wnX3_isOpen : Cond.instanceMethod yX3_isOpen ∈ tbG := tbk2 152 rfl rfl
set_option maxRecDepth 20000 in
theorem weX3_isOpen : Cond.selects RX3 yX3_isOpen yX3_isOpen ∈ tbG := tbk2 153 rfl rfl
set_option maxRecDepth 20000 in
theorem wcX3_isWatched : Cond.code MX3_isWatched.1 MX3_isWatched.2.1 MX3_isWatched.2.2.1 MX3_isWatched.2.2.2.1 ∈ tbG := tbk2 150 rfl rfl
set_option maxRecDepth 20000 in
theorem wnX3_isWatched : Cond.instanceMethod yX3_isWatched ∈ tbG := tbk2 148 rfl rfl
set_option maxRecDepth 20000 in
theorem weX3_isWatched : Cond.selects RX3 yX3_isWatched yX3_isWatched ∈ tbG := tbk2 149 rfl rfl
set_option maxRecDepth 20000 in
theorem wcJ9_min_7cf53 : Cond.code MJ9_min_7cf53.1 MJ9_min_7cf53.2.1 MJ9_min_7cf53.2.2.1 MJ9_min_7cf53.2.2.2.1 ∈ tbG := tbk2 4 rfl rfl
set_option maxRecDepth 20000 in
theorem wsJ9_min_7cf53 : Cond.static yJ9_min_7cf53 ∈ tbG := tbk2 3 rfl rfl
set_option maxRecDepth 20000 in
theorem wcX1_comeNearer : Cond.code MX1_comeNearer.1 MX1_comeNearer.2.1 MX1_comeNearer.2.2.1 MX1_comeNearer.2.2.2.1 ∈ tbG := tbk3 183 rfl rfl
set_option maxRecDepth 20000 in
theorem wnX1_comeNearer : Cond.instanceMethod yX1_comeNearer ∈ tbG := tbk3 182 rfl rfl
theorem weX1_comeNearer : Cond.selects RX1 yX1_comeNearer yX1_comeNearer ∈ tbG := tb_ps 26 (by decide +kernel) rfl
set_option maxRecDepth 20000 in
theorem wcX1_allowOneMore : Cond.code MX1_allowOneMore.1 MX1_allowOneMore.2.1 MX1_allowOneMore.2.2.1 MX1_allowOneMore.2.2.2.1 ∈ tbG := tbk3 173 rfl rfl
set_option maxRecDepth 20000 in
theorem wnX1_allowOneMore : Cond.instanceMethod yX1_allowOneMore ∈ tbG := tbk3 172 rfl rfl
theorem weX1_allowOneMore : Cond.selects RX1 yX1_allowOneMore yX1_allowOneMore ∈ tbG := tb_ps 25 (by decide +kernel) rfl
set_option maxRecDepth 20000 in
theorem wcX1_fullest : Cond.code MX1_fullest.1 MX1_fullest.2.1 MX1_fullest.2.2.1 MX1_fullest.2.2.2.1 ∈ tbG := tbk3 157 rfl rfl
set_option maxRecDepth 20000 in
theorem wnX1_fullest : Cond.instanceMethod yX1_fullest ∈ tbG := tbk3 155 rfl rfl
set_option maxRecDepth 20000 in
theorem weX1_fullest : Cond.selects RX1 yX1_fullest yX1_fullest ∈ tbG := tbk3 156 rfl rfl
set_option maxRecDepth 20000 in
theorem wcX1_homely : Cond.code MX1_homely.1 MX1_homely.2.1 MX1_homely.2.2.1 MX1_homely.2.2.2.1 ∈ tbG := tbk3 196 rfl rfl
set_option maxRecDepth 20000 in
theorem wnX1_homely : Cond.instanceMethod yX1_homely ∈ tbG := tbk3 194 rfl rfl
set_option maxRecDepth 20000 in
theorem weX1_homely : Cond.selects RX1 yX1_homely yX1_homely ∈ tbG := tbk3 195 rfl rfl
set_option maxRecDepth 20000 in
theorem wcX1_stepsTo : Cond.code MX1_stepsTo.1 MX1_stepsTo.2.1 MX1_stepsTo.2.2.1 MX1_stepsTo.2.2.2.1 ∈ tbG := tbk3 188 rfl rfl
set_option maxRecDepth 20000 in
theorem wnX1_stepsTo : Cond.instanceMethod yX1_stepsTo ∈ tbG := tbk3 186 rfl rfl
set_option maxRecDepth 20000 in
theorem weX1_stepsTo : Cond.selects RX1 yX1_stepsTo yX1_stepsTo ∈ tbG := tbk3 187 rfl rfl
set_option maxRecDepth 20000 in
theorem wcX2_onPaper : Cond.code MX2_onPaper.1 MX2_onPaper.2.1 MX2_onPaper.2.2.1 MX2_onPaper.2.2.2.1 ∈ tbG := tbk2 222 rfl rfl
set_option maxRecDepth 20000 in
theorem wnX2_onPaper : Cond.instanceMethod yX2_onPaper ∈ tbG := tbk2 220 rfl rfl
set_option maxRecDepth 20000 in
theorem weX2_onPaper : Cond.selects RX2 yX2_onPaper yX2_onPaper ∈ tbG := tbk2 221 rfl rfl
set_option maxRecDepth 20000 in
theorem wcX5_size : Cond.code MX5_size.1 MX5_size.2.1 MX5_size.2.2.1 MX5_size.2.2.2.1 ∈ tbG := tbk2 197 rfl rfl
set_option maxRecDepth 20000 in
theorem wnX5_size : Cond.instanceMethod yX5_size ∈ tbG := tbk2 195 rfl rfl
set_option maxRecDepth 20000 in
theorem weX5_size : Cond.selects RX5 yX5_size yX5_size ∈ tbG := tbk2 196 rfl rfl
set_option maxRecDepth 20000 in
theorem wcX2_begin : Cond.code MX2_begin.1 MX2_begin.2.1 MX2_begin.2.2.1 MX2_begin.2.2.2.1 ∈ tbG := tbk2 226 rfl rfl
set_option maxRecDepth 20000 in
theorem wnX2_begin : Cond.instanceMethod yX2_begin ∈ tbG := tbk2 224 rfl rfl
set_option maxRecDepth 20000 in
theorem weX2_begin : Cond.selects RX2 yX2_begin yX2_begin ∈ tbG := tbk2 225 rfl rfl
set_option maxRecDepth 20000 in
theorem wcX8_size : Cond.code MX8_size.1 MX8_size.2.1 MX8_size.2.2.1 MX8_size.2.2.2.1 ∈ tbG := tbk2 82 rfl rfl
set_option maxRecDepth 20000 in
theorem wnX8_size : Cond.instanceMethod yX8_size ∈ tbG := tbk2 80 rfl rfl
set_option maxRecDepth 20000 in
theorem weX8_size : Cond.selects RX8 yX8_size yX8_size ∈ tbG := tbk2 81 rfl rfl
set_option maxRecDepth 20000 in
theorem wcX8_at : Cond.code MX8_at.1 MX8_at.2.1 MX8_at.2.2.1 MX8_at.2.2.2.1 ∈ tbG := tbk2 90 rfl rfl
set_option maxRecDepth 20000 in
theorem wnX8_at : Cond.instanceMethod yX8_at ∈ tbG := tbk2 88 rfl rfl
set_option maxRecDepth 20000 in
theorem weX8_at : Cond.selects RX8 yX8_at yX8_at ∈ tbG := tbk2 89 rfl rfl
set_option maxRecDepth 20000 in
theorem wcX3_letterOf : Cond.code MX3_letterOf.1 MX3_letterOf.2.1 MX3_letterOf.2.2.1 MX3_letterOf.2.2.2.1 ∈ tbG := tbk2 130 rfl rfl
set_option maxRecDepth 20000 in
theorem wnX3_letterOf : Cond.instanceMethod yX3_letterOf ∈ tbG := tbk2 128 rfl rfl
set_option maxRecDepth 20000 in
theorem weX3_letterOf : Cond.selects RX3 yX3_letterOf yX3_letterOf ∈ tbG := tbk2 129 rfl rfl
set_option maxRecDepth 20000 in
theorem wcX5_strikes : Cond.code MX5_strikes.1 MX5_strikes.2.1 MX5_strikes.2.2.1 MX5_strikes.2.2.2.1 ∈ tbG := tbk2 193 rfl rfl
set_option maxRecDepth 20000 in
theorem wnX5_strikes : Cond.instanceMethod yX5_strikes ∈ tbG := tbk2 191 rfl rfl
set_option maxRecDepth 20000 in
theorem weX5_strikes : Cond.selects RX5 yX5_strikes yX5_strikes ∈ tbG := tbk2 192 rfl rfl
set_option maxRecDepth 20000 in
theorem wcX2_mayPass : Cond.code MX2_mayPass.1 MX2_mayPass.2.1 MX2_mayPass.2.2.1 MX2_mayPass.2.2.2.1 ∈ tbG := tbk2 238 rfl rfl
set_option maxRecDepth 20000 in
theorem wnX2_mayPass : Cond.instanceMethod yX2_mayPass ∈ tbG := tbk2 237 rfl rfl
theorem weX2_mayPass : Cond.selects RX2 yX2_mayPass yX2_mayPass ∈ tbG := tb_ps 8 (by decide +kernel) rfl
set_option maxRecDepth 20000 in
theorem wcX5_stamp : Cond.code MX5_stamp.1 MX5_stamp.2.1 MX5_stamp.2.2.1 MX5_stamp.2.2.2.1 ∈ tbG := tbk2 189 rfl rfl
set_option maxRecDepth 20000 in
theorem wnX5_stamp : Cond.instanceMethod yX5_stamp ∈ tbG := tbk2 187 rfl rfl
set_option maxRecDepth 20000 in
theorem weX5_stamp : Cond.selects RX5 yX5_stamp yX5_stamp ∈ tbG := tbk2 188 rfl rfl
set_option maxRecDepth 20000 in
theorem wcX2_pass : Cond.code MX2_pass.1 MX2_pass.2.1 MX2_pass.2.2.1 MX2_pass.2.2.2.1 ∈ tbG := tbk3 7 rfl rfl
set_option maxRecDepth 20000 in
theorem wnX2_pass : Cond.instanceMethod yX2_pass ∈ tbG := tbk3 6 rfl rfl
theorem weX2_pass : Cond.selects RX2 yX2_pass yX2_pass ∈ tbG := tb_ps 9 (by decide +kernel) rfl
set_option maxRecDepth 20000 in
theorem wcX2_follow : Cond.code MX2_follow.1 MX2_follow.2.1 MX2_follow.2.2.1 MX2_follow.2.2.2.1 ∈ tbG := tbk2 231 rfl rfl
set_option maxRecDepth 20000 in
theorem wnX2_follow : Cond.instanceMethod yX2_follow ∈ tbG := tbk2 229 rfl rfl
set_option maxRecDepth 20000 in
theorem weX2_follow : Cond.selects RX2 yX2_follow yX2_follow ∈ tbG := tbk2 230 rfl rfl
set_option maxRecDepth 20000 in
theorem wcX2_verdict : Cond.code MX2_verdict.1 MX2_verdict.2.1 MX2_verdict.2.2.1 MX2_verdict.2.2.2.1 ∈ tbG := tbk3 16 rfl rfl
set_option maxRecDepth 20000 in
theorem wnX2_verdict : Cond.instanceMethod yX2_verdict ∈ tbG := tbk3 14 rfl rfl
set_option maxRecDepth 20000 in
theorem weX2_verdict : Cond.selects RX2 yX2_verdict yX2_verdict ∈ tbG := tbk3 15 rfl rfl
set_option maxRecDepth 20000 in
theorem wcX3_forget : Cond.code MX3_forget.1 MX3_forget.2.1 MX3_forget.2.2.1 MX3_forget.2.2.2.1 ∈ tbG := tbk2 78 rfl rfl
set_option maxRecDepth 20000 in
theorem wnX3_forget : Cond.instanceMethod yX3_forget ∈ tbG := tbk2 77 rfl rfl
theorem weX3_forget : Cond.selects RX3 yX3_forget yX3_forget ∈ tbG := tb_ps 1 (by decide +kernel) rfl
set_option maxRecDepth 20000 in
theorem wcX3_isFigure : Cond.code MX3_isFigure.1 MX3_isFigure.2.1 MX3_isFigure.2.2.1 MX3_isFigure.2.2.2.1 ∈ tbG := tbk2 97 rfl rfl
set_option maxRecDepth 20000 in
theorem wsX3_isFigure : Cond.static yX3_isFigure ∈ tbG := tbk2 96 rfl rfl
set_option maxRecDepth 20000 in
theorem wcX3_takeRoom : Cond.code MX3_takeRoom.1 MX3_takeRoom.2.1 MX3_takeRoom.2.2.1 MX3_takeRoom.2.2.2.1 ∈ tbG := tbk2 94 rfl rfl
set_option maxRecDepth 20000 in
theorem wnX3_takeRoom : Cond.instanceMethod yX3_takeRoom ∈ tbG := tbk2 93 rfl rfl
theorem weX3_takeRoom : Cond.selects RX3 yX3_takeRoom yX3_takeRoom ∈ tbG := tb_ps 3 (by decide +kernel) rfl
set_option maxRecDepth 20000 in
theorem wcX3_isTownByte : Cond.code MX3_isTownByte.1 MX3_isTownByte.2.1 MX3_isTownByte.2.2.1 MX3_isTownByte.2.2.2.1 ∈ tbG := tbk2 104 rfl rfl
set_option maxRecDepth 20000 in
theorem wsX3_isTownByte : Cond.static yX3_isTownByte ∈ tbG := tbk2 103 rfl rfl
set_option maxRecDepth 20000 in
theorem wcX3_takeGate : Cond.code MX3_takeGate.1 MX3_takeGate.2.1 MX3_takeGate.2.2.1 MX3_takeGate.2.2.2.1 ∈ tbG := tbk2 101 rfl rfl
set_option maxRecDepth 20000 in
theorem wnX3_takeGate : Cond.instanceMethod yX3_takeGate ∈ tbG := tbk2 100 rfl rfl
theorem weX3_takeGate : Cond.selects RX3 yX3_takeGate yX3_takeGate ∈ tbG := tb_ps 4 (by decide +kernel) rfl
set_option maxRecDepth 20000 in
theorem wcX3_faultOf : Cond.code MX3_faultOf.1 MX3_faultOf.2.1 MX3_faultOf.2.2.1 MX3_faultOf.2.2.2.1 ∈ tbG := tbk2 86 rfl rfl
set_option maxRecDepth 20000 in
theorem wnX3_faultOf : Cond.instanceMethod yX3_faultOf ∈ tbG := tbk2 85 rfl rfl
theorem weX3_faultOf : Cond.selects RX3 yX3_faultOf yX3_faultOf ∈ tbG := tb_ps 2 (by decide +kernel) rfl
set_option maxRecDepth 20000 in
theorem wcX3_learn : Cond.code MX3_learn.1 MX3_learn.2.1 MX3_learn.2.2.1 MX3_learn.2.2.2.1 ∈ tbG := tbk2 74 rfl rfl
set_option maxRecDepth 20000 in
theorem wnX3_learn : Cond.instanceMethod yX3_learn ∈ tbG := tbk2 72 rfl rfl
set_option maxRecDepth 20000 in
theorem weX3_learn : Cond.selects RX3 yX3_learn yX3_learn ∈ tbG := tbk2 73 rfl rfl
set_option maxRecDepth 20000 in
theorem wcX3_close : Cond.code MX3_close.1 MX3_close.2.1 MX3_close.2.2.1 MX3_close.2.2.2.1 ∈ tbG := tbk2 170 rfl rfl
set_option maxRecDepth 20000 in
theorem wnX3_close : Cond.instanceMethod yX3_close ∈ tbG := tbk2 168 rfl rfl
set_option maxRecDepth 20000 in
theorem weX3_close : Cond.selects RX3 yX3_close yX3_close ∈ tbG := tbk2 169 rfl rfl
set_option maxRecDepth 20000 in
theorem wcX3_faultPlace : Cond.code MX3_faultPlace.1 MX3_faultPlace.2.1 MX3_faultPlace.2.2.1 MX3_faultPlace.2.2.2.1 ∈ tbG := tbk2 121 rfl rfl
set_option maxRecDepth 20000 in
theorem wnX3_faultPlace : Cond.instanceMethod yX3_faultPlace ∈ tbG := tbk2 119 rfl rfl
set_option maxRecDepth 20000 in
theorem weX3_faultPlace : Cond.selects RX3 yX3_faultPlace yX3_faultPlace ∈ tbG := tbk2 120 rfl rfl
set_option maxRecDepth 20000 in
theorem wcJ6_bitCount_0f7a4 : Cond.code MJ6_bitCount_0f7a4.1 MJ6_bitCount_0f7a4.2.1 MJ6_bitCount_0f7a4.2.2.1 MJ6_bitCount_0f7a4.2.2.2.1 ∈ tbG := tbk4 141 rfl rfl
set_option maxRecDepth 20000 in
theorem wsJ6_bitCount_0f7a4 : Cond.static yJ6_bitCount_0f7a4 ∈ tbG := tbk4 140 rfl rfl
set_option maxRecDepth 20000 in
theorem wcX3_gatesWatched : Cond.code MX3_gatesWatched.1 MX3_gatesWatched.2.1 MX3_gatesWatched.2.2.1 MX3_gatesWatched.2.2.2.1 ∈ tbG := tbk5 14 rfl rfl
set_option maxRecDepth 20000 in
theorem wnX3_gatesWatched : Cond.instanceMethod yX3_gatesWatched ∈ tbG := tbk5 12 rfl rfl
set_option maxRecDepth 20000 in
theorem weX3_gatesWatched : Cond.selects RX3 yX3_gatesWatched yX3_gatesWatched ∈ tbG := tbk5 13 rfl rfl
set_option maxRecDepth 20000 in
theorem wcX3_hasGate : Cond.code MX3_hasGate.1 MX3_hasGate.2.1 MX3_hasGate.2.2.1 MX3_hasGate.2.2.2.1 ∈ tbG := tbk2 138 rfl rfl
set_option maxRecDepth 20000 in
theorem wnX3_hasGate : Cond.instanceMethod yX3_hasGate ∈ tbG := tbk2 136 rfl rfl
set_option maxRecDepth 20000 in
theorem weX3_hasGate : Cond.selects RX3 yX3_hasGate yX3_hasGate ∈ tbG := tbk2 137 rfl rfl
set_option maxRecDepth 20000 in
theorem wcX3_openGates : Cond.code MX3_openGates.1 MX3_openGates.2.1 MX3_openGates.2.2.1 MX3_openGates.2.2.2.1 ∈ tbG := tbk4 156 rfl rfl
set_option maxRecDepth 20000 in
theorem wnX3_openGates : Cond.instanceMethod yX3_openGates ∈ tbG := tbk4 154 rfl rfl
set_option maxRecDepth 20000 in
theorem weX3_openGates : Cond.selects RX3 yX3_openGates yX3_openGates ∈ tbG := tbk4 155 rfl rfl
set_option maxRecDepth 20000 in
theorem wcX4_isFull : Cond.code MX4_isFull.1 MX4_isFull.2.1 MX4_isFull.2.2.1 MX4_isFull.2.2.2.1 ∈ tbG := tbk4 35 rfl rfl
set_option maxRecDepth 20000 in
theorem wnX4_isFull : Cond.instanceMethod yX4_isFull ∈ tbG := tbk4 33 rfl rfl
set_option maxRecDepth 20000 in
theorem weX4_isFull : Cond.selects RX4 yX4_isFull yX4_isFull ∈ tbG := tbk4 34 rfl rfl
set_option maxRecDepth 20000 in
theorem wcX4_size : Cond.code MX4_size.1 MX4_size.2.1 MX4_size.2.2.1 MX4_size.2.2.2.1 ∈ tbG := tbk4 46 rfl rfl
set_option maxRecDepth 20000 in
theorem wnX4_size : Cond.instanceMethod yX4_size ∈ tbG := tbk4 44 rfl rfl
set_option maxRecDepth 20000 in
theorem weX4_size : Cond.selects RX4 yX4_size yX4_size ∈ tbG := tbk4 45 rfl rfl
set_option maxRecDepth 20000 in
theorem wcX5_at : Cond.code MX5_at.1 MX5_at.2.1 MX5_at.2.2.1 MX5_at.2.2.2.1 ∈ tbG := tbk2 201 rfl rfl
set_option maxRecDepth 20000 in
theorem wnX5_at : Cond.instanceMethod yX5_at ∈ tbG := tbk2 199 rfl rfl
set_option maxRecDepth 20000 in
theorem weX5_at : Cond.selects RX5 yX5_at yX5_at ∈ tbG := tbk2 200 rfl rfl
set_option maxRecDepth 20000 in
theorem wcX4_append : Cond.code MX4_append.1 MX4_append.2.1 MX4_append.2.2.1 MX4_append.2.2.2.1 ∈ tbG := tbk4 39 rfl rfl
set_option maxRecDepth 20000 in
theorem wnX4_append : Cond.instanceMethod yX4_append ∈ tbG := tbk4 37 rfl rfl
set_option maxRecDepth 20000 in
theorem weX4_append : Cond.selects RX4 yX4_append yX4_append ∈ tbG := tbk4 38 rfl rfl
set_option maxRecDepth 20000 in
theorem wcX4_dropLast : Cond.code MX4_dropLast.1 MX4_dropLast.2.1 MX4_dropLast.2.2.1 MX4_dropLast.2.2.2.1 ∈ tbG := tbk4 81 rfl rfl
set_option maxRecDepth 20000 in
theorem wnX4_dropLast : Cond.instanceMethod yX4_dropLast ∈ tbG := tbk4 79 rfl rfl
set_option maxRecDepth 20000 in
theorem weX4_dropLast : Cond.selects RX4 yX4_dropLast yX4_dropLast ∈ tbG := tbk4 80 rfl rfl
set_option maxRecDepth 20000 in
theorem wcX4_goodOnes : Cond.code MX4_goodOnes.1 MX4_goodOnes.2.1 MX4_goodOnes.2.2.1 MX4_goodOnes.2.2.2.1 ∈ tbG := tbk5 19 rfl rfl
set_option maxRecDepth 20000 in
theorem wnX4_goodOnes : Cond.instanceMethod yX4_goodOnes ∈ tbG := tbk5 17 rfl rfl
set_option maxRecDepth 20000 in
theorem weX4_goodOnes : Cond.selects RX4 yX4_goodOnes yX4_goodOnes ∈ tbG := tbk5 18 rfl rfl
set_option maxRecDepth 20000 in
theorem wcX4_stampsOf : Cond.code MX4_stampsOf.1 MX4_stampsOf.2.1 MX4_stampsOf.2.2.1 MX4_stampsOf.2.2.2.1 ∈ tbG := tbk4 90 rfl rfl
set_option maxRecDepth 20000 in
theorem wnX4_stampsOf : Cond.instanceMethod yX4_stampsOf ∈ tbG := tbk4 88 rfl rfl
set_option maxRecDepth 20000 in
theorem weX4_stampsOf : Cond.selects RX4 yX4_stampsOf yX4_stampsOf ∈ tbG := tbk4 89 rfl rfl
set_option maxRecDepth 20000 in
theorem wcX4_stampAt : Cond.code MX4_stampAt.1 MX4_stampAt.2.1 MX4_stampAt.2.2.1 MX4_stampAt.2.2.2.1 ∈ tbG := tbk4 94 rfl rfl
set_option maxRecDepth 20000 in
theorem wnX4_stampAt : Cond.instanceMethod yX4_stampAt ∈ tbG := tbk4 92 rfl rfl
set_option maxRecDepth 20000 in
theorem weX4_stampAt : Cond.selects RX4 yX4_stampAt yX4_stampAt ∈ tbG := tbk4 93 rfl rfl
set_option maxRecDepth 20000 in
theorem wcX4_unlikeAt : Cond.code MX4_unlikeAt.1 MX4_unlikeAt.2.1 MX4_unlikeAt.2.2.1 MX4_unlikeAt.2.2.2.1 ∈ tbG := tbk4 109 rfl rfl
set_option maxRecDepth 20000 in
theorem wnX4_unlikeAt : Cond.instanceMethod yX4_unlikeAt ∈ tbG := tbk4 108 rfl rfl
theorem weX4_unlikeAt : Cond.selects RX4 yX4_unlikeAt yX4_unlikeAt ∈ tbG := tb_ps 36 (by decide +kernel) rfl
set_option maxRecDepth 20000 in
theorem wcX4_letsBy : Cond.code MX4_letsBy.1 MX4_letsBy.2.1 MX4_letsBy.2.2.1 MX4_letsBy.2.2.2.1 ∈ tbG := tbk4 105 rfl rfl
set_option maxRecDepth 20000 in
theorem wnX4_letsBy : Cond.instanceMethod yX4_letsBy ∈ tbG := tbk4 103 rfl rfl
set_option maxRecDepth 20000 in
theorem weX4_letsBy : Cond.selects RX4 yX4_letsBy yX4_letsBy ∈ tbG := tbk4 104 rfl rfl
set_option maxRecDepth 20000 in
theorem wcX4_unlikeOf : Cond.code MX4_unlikeOf.1 MX4_unlikeOf.2.1 MX4_unlikeOf.2.2.1 MX4_unlikeOf.2.2.2.1 ∈ tbG := tbk4 126 rfl rfl
set_option maxRecDepth 20000 in
theorem wnX4_unlikeOf : Cond.instanceMethod yX4_unlikeOf ∈ tbG := tbk4 125 rfl rfl
theorem weX4_unlikeOf : Cond.selects RX4 yX4_unlikeOf yX4_unlikeOf ∈ tbG := tb_ps 38 (by decide +kernel) rfl
set_option maxRecDepth 20000 in
theorem wcX4_isLetBy : Cond.code MX4_isLetBy.1 MX4_isLetBy.2.1 MX4_isLetBy.2.2.1 MX4_isLetBy.2.2.2.1 ∈ tbG := tbk4 122 rfl rfl
set_option maxRecDepth 20000 in
theorem wnX4_isLetBy : Cond.instanceMethod yX4_isLetBy ∈ tbG := tbk4 121 rfl rfl
theorem weX4_isLetBy : Cond.selects RX4 yX4_isLetBy yX4_isLetBy ∈ tbG := tb_ps 37 (by decide +kernel) rfl
set_option maxRecDepth 20000 in
theorem wcX4_slipping : Cond.code MX4_slipping.1 MX4_slipping.2.1 MX4_slipping.2.2.1 MX4_slipping.2.2.2.1 ∈ tbG := tbk4 118 rfl rfl
set_option maxRecDepth 20000 in
theorem wnX4_slipping : Cond.instanceMethod yX4_slipping ∈ tbG := tbk4 116 rfl rfl
set_option maxRecDepth 20000 in
theorem weX4_slipping : Cond.selects RX4 yX4_slipping yX4_slipping ∈ tbG := tbk4 117 rfl rfl
set_option maxRecDepth 20000 in
theorem wcX4_gatherUnlike : Cond.code MX4_gatherUnlike.1 MX4_gatherUnlike.2.1 MX4_gatherUnlike.2.2.1 MX4_gatherUnlike.2.2.2.1 ∈ tbG := tbk4 138 rfl rfl
set_option maxRecDepth 20000 in
theorem wnX4_gatherUnlike : Cond.instanceMethod yX4_gatherUnlike ∈ tbG := tbk4 137 rfl rfl
theorem weX4_gatherUnlike : Cond.selects RX4 yX4_gatherUnlike yX4_gatherUnlike ∈ tbG := tb_ps 39 (by decide +kernel) rfl
set_option maxRecDepth 20000 in
theorem wcX4_partsAll : Cond.code MX4_partsAll.1 MX4_partsAll.2.1 MX4_partsAll.2.2.1 MX4_partsAll.2.2.2.1 ∈ tbG := tbk4 148 rfl rfl
set_option maxRecDepth 20000 in
theorem wnX4_partsAll : Cond.instanceMethod yX4_partsAll ∈ tbG := tbk4 147 rfl rfl
theorem weX4_partsAll : Cond.selects RX4 yX4_partsAll yX4_partsAll ∈ tbG := tb_ps 40 (by decide +kernel) rfl
set_option maxRecDepth 20000 in
theorem wcX4_fewestPlaces : Cond.code MX4_fewestPlaces.1 MX4_fewestPlaces.2.1 MX4_fewestPlaces.2.2.1 MX4_fewestPlaces.2.2.2.1 ∈ tbG := tbk4 134 rfl rfl
set_option maxRecDepth 20000 in
theorem wnX4_fewestPlaces : Cond.instanceMethod yX4_fewestPlaces ∈ tbG := tbk4 132 rfl rfl
set_option maxRecDepth 20000 in
theorem weX4_fewestPlaces : Cond.selects RX4 yX4_fewestPlaces yX4_fewestPlaces ∈ tbG := tbk4 133 rfl rfl
set_option maxRecDepth 20000 in
theorem wcX5_empty : Cond.code MX5_empty.1 MX5_empty.2.1 MX5_empty.2.2.1 MX5_empty.2.2.2.1 ∈ tbG := tbk2 185 rfl rfl
set_option maxRecDepth 20000 in
theorem wnX5_empty : Cond.instanceMethod yX5_empty ∈ tbG := tbk2 183 rfl rfl
set_option maxRecDepth 20000 in
theorem weX5_empty : Cond.selects RX5 yX5_empty yX5_empty ∈ tbG := tbk2 184 rfl rfl
set_option maxRecDepth 20000 in
theorem wcX5_alike : Cond.code MX5_alike.1 MX5_alike.2.1 MX5_alike.2.2.1 MX5_alike.2.2.2.1 ∈ tbG := tbk3 24 rfl rfl
set_option maxRecDepth 20000 in
theorem wnX5_alike : Cond.instanceMethod yX5_alike ∈ tbG := tbk3 22 rfl rfl
set_option maxRecDepth 20000 in
theorem weX5_alike : Cond.selects RX5 yX5_alike yX5_alike ∈ tbG := tbk3 23 rfl rfl
set_option maxRecDepth 20000 in
theorem wcX6_need : Cond.code MX6_need.1 MX6_need.2.1 MX6_need.2.2.1 MX6_need.2.2.2.1 ∈ tbG := tbk3 81 rfl rfl
set_option maxRecDepth 20000 in
theorem wnX6_need : Cond.instanceMethod yX6_need ∈ tbG := tbk3 80 rfl rfl
theorem weX6_need : Cond.selects RX6 yX6_need yX6_need ∈ tbG := tb_ps 14 (by decide +kernel) rfl
set_option maxRecDepth 20000 in
theorem wcX6_plan : Cond.code MX6_plan.1 MX6_plan.2.1 MX6_plan.2.2.1 MX6_plan.2.2.2.1 ∈ tbG := tbk3 47 rfl rfl
set_option maxRecDepth 20000 in
theorem wnX6_plan : Cond.instanceMethod yX6_plan ∈ tbG := tbk3 45 rfl rfl
set_option maxRecDepth 20000 in
theorem weX6_plan : Cond.selects RX6 yX6_plan yX6_plan ∈ tbG := tbk3 46 rfl rfl
set_option maxRecDepth 20000 in
theorem wcX6_needAt : Cond.code MX6_needAt.1 MX6_needAt.2.1 MX6_needAt.2.2.1 MX6_needAt.2.2.2.1 ∈ tbG := tbk3 93 rfl rfl
set_option maxRecDepth 20000 in
theorem wnX6_needAt : Cond.instanceMethod yX6_needAt ∈ tbG := tbk3 92 rfl rfl
theorem weX6_needAt : Cond.selects RX6 yX6_needAt yX6_needAt ∈ tbG := tb_ps 16 (by decide +kernel) rfl
set_option maxRecDepth 20000 in
theorem wcX6_goal : Cond.code MX6_goal.1 MX6_goal.2.1 MX6_goal.2.2.1 MX6_goal.2.2.2.1 ∈ tbG := tbk3 98 rfl rfl
set_option maxRecDepth 20000 in
theorem wnX6_goal : Cond.instanceMethod yX6_goal ∈ tbG := tbk3 97 rfl rfl
theorem weX6_goal : Cond.selects RX6 yX6_goal yX6_goal ∈ tbG := tb_ps 17 (by decide +kernel) rfl
set_option maxRecDepth 20000 in
theorem wcX6_origin : Cond.code MX6_origin.1 MX6_origin.2.1 MX6_origin.2.2.1 MX6_origin.2.2.2.1 ∈ tbG := tbk3 89 rfl rfl
set_option maxRecDepth 20000 in
theorem wnX6_origin : Cond.instanceMethod yX6_origin ∈ tbG := tbk3 88 rfl rfl
theorem weX6_origin : Cond.selects RX6 yX6_origin yX6_origin ∈ tbG := tb_ps 15 (by decide +kernel) rfl
set_option maxRecDepth 20000 in
theorem wcX6_gatesBetween : Cond.code MX6_gatesBetween.1 MX6_gatesBetween.2.1 MX6_gatesBetween.2.2.1 MX6_gatesBetween.2.2.2.1 ∈ tbG := tbk3 85 rfl rfl
set_option maxRecDepth 20000 in
theorem wnX6_gatesBetween : Cond.instanceMethod yX6_gatesBetween ∈ tbG := tbk3 83 rfl rfl
set_option maxRecDepth 20000 in
theorem weX6_gatesBetween : Cond.selects RX6 yX6_gatesBetween yX6_gatesBetween ∈ tbG := tbk3 84 rfl rfl
set_option maxRecDepth 20000 in
theorem wcJ7_fill_d0a16 : Cond.code MJ7_fill_d0a16.1 MJ7_fill_d0a16.2.1 MJ7_fill_d0a16.2.2.1 MJ7_fill_d0a16.2.2.2.1 ∈ tbG := tbk3 116 rfl rfl
set_option maxRecDepth 20000 in
theorem wsJ7_fill_d0a16 : Cond.static yJ7_fill_d0a16 ∈ tbG := tbk3 115 rfl rfl
set_option maxRecDepth 20000 in
theorem wcX6_isLane : Cond.code MX6_isLane.1 MX6_isLane.2.1 MX6_isLane.2.2.1 MX6_isLane.2.2.2.1 ∈ tbG := tbk3 129 rfl rfl
set_option maxRecDepth 20000 in
theorem wnX6_isLane : Cond.instanceMethod yX6_isLane ∈ tbG := tbk3 128 rfl rfl
theorem weX6_isLane : Cond.selects RX6 yX6_isLane yX6_isLane ∈ tbG := tb_ps 20 (by decide +kernel) rfl
set_option maxRecDepth 20000 in
theorem wcX6_stepNearer : Cond.code MX6_stepNearer.1 MX6_stepNearer.2.1 MX6_stepNearer.2.2.1 MX6_stepNearer.2.2.2.1 ∈ tbG := tbk3 121 rfl rfl
set_option maxRecDepth 20000 in
theorem wnX6_stepNearer : Cond.instanceMethod yX6_stepNearer ∈ tbG := tbk3 120 rfl rfl
theorem weX6_stepNearer : Cond.selects RX6 yX6_stepNearer yX6_stepNearer ∈ tbG := tb_ps 19 (by decide +kernel) rfl
set_option maxRecDepth 20000 in
theorem wcX6_laneWays : Cond.code MX6_laneWays.1 MX6_laneWays.2.1 MX6_laneWays.2.2.1 MX6_laneWays.2.2.2.1 ∈ tbG := tbk3 113 rfl rfl
set_option maxRecDepth 20000 in
theorem wnX6_laneWays : Cond.instanceMethod yX6_laneWays ∈ tbG := tbk3 112 rfl rfl
theorem weX6_laneWays : Cond.selects RX6 yX6_laneWays yX6_laneWays ∈ tbG := tb_ps 18 (by decide +kernel) rfl
set_option maxRecDepth 20000 in
theorem wcX6_ways : Cond.code MX6_ways.1 MX6_ways.2.1 MX6_ways.2.2.1 MX6_ways.2.2.2.1 ∈ tbG := tbk3 109 rfl rfl
set_option maxRecDepth 20000 in
theorem wnX6_ways : Cond.instanceMethod yX6_ways ∈ tbG := tbk3 107 rfl rfl
set_option maxRecDepth 20000 in
theorem weX6_ways : Cond.selects RX6 yX6_ways yX6_ways ∈ tbG := tbk3 108 rfl rfl
set_option maxRecDepth 20000 in
theorem wcX6_leastNearer : Cond.code MX6_leastNearer.1 MX6_leastNearer.2.1 MX6_leastNearer.2.2.1 MX6_leastNearer.2.2.2.1 ∈ tbG := tbk3 149 rfl rfl
set_option maxRecDepth 20000 in
theorem wnX6_leastNearer : Cond.instanceMethod yX6_leastNearer ∈ tbG := tbk3 148 rfl rfl
theorem weX6_leastNearer : Cond.selects RX6 yX6_leastNearer yX6_leastNearer ∈ tbG := tb_ps 22 (by decide +kernel) rfl
set_option maxRecDepth 20000 in
theorem wcX6_leastLaneLetter : Cond.code MX6_leastLaneLetter.1 MX6_leastLaneLetter.2.1 MX6_leastLaneLetter.2.2.1 MX6_leastLaneLetter.2.2.2.1 ∈ tbG := tbk3 145 rfl rfl
set_option maxRecDepth 20000 in
theorem wnX6_leastLaneLetter : Cond.instanceMethod yX6_leastLaneLetter ∈ tbG := tbk3 144 rfl rfl
theorem weX6_leastLaneLetter : Cond.selects RX6 yX6_leastLaneLetter yX6_leastLaneLetter ∈ tbG := tb_ps 21 (by decide +kernel) rfl
set_option maxRecDepth 20000 in
theorem wcX6_leastLetter : Cond.code MX6_leastLetter.1 MX6_leastLetter.2.1 MX6_leastLetter.2.2.1 MX6_leastLetter.2.2.2.1 ∈ tbG := tbk3 141 rfl rfl
set_option maxRecDepth 20000 in
theorem wnX6_leastLetter : Cond.instanceMethod yX6_leastLetter ∈ tbG := tbk3 139 rfl rfl
set_option maxRecDepth 20000 in
theorem weX6_leastLetter : Cond.selects RX6 yX6_leastLetter yX6_leastLetter ∈ tbG := tbk3 140 rfl rfl
set_option maxRecDepth 20000 in
theorem wcX6_isChained : Cond.code MX6_isChained.1 MX6_isChained.2.1 MX6_isChained.2.2.1 MX6_isChained.2.2.2.1 ∈ tbG := tbk3 208 rfl rfl
set_option maxRecDepth 20000 in
theorem wnX6_isChained : Cond.instanceMethod yX6_isChained ∈ tbG := tbk3 207 rfl rfl
theorem weX6_isChained : Cond.selects RX6 yX6_isChained yX6_isChained ∈ tbG := tb_ps 27 (by decide +kernel) rfl
set_option maxRecDepth 20000 in
theorem wcX6_starts : Cond.code MX6_starts.1 MX6_starts.2.1 MX6_starts.2.2.1 MX6_starts.2.2.2.1 ∈ tbG := tbk3 204 rfl rfl
set_option maxRecDepth 20000 in
theorem wnX6_starts : Cond.instanceMethod yX6_starts ∈ tbG := tbk3 202 rfl rfl
set_option maxRecDepth 20000 in
theorem weX6_starts : Cond.selects RX6 yX6_starts yX6_starts ∈ tbG := tbk3 203 rfl rfl
set_option maxRecDepth 20000 in
theorem wcX6_ends : Cond.code MX6_ends.1 MX6_ends.2.1 MX6_ends.2.2.1 MX6_ends.2.2.2.1 ∈ tbG := tbk3 218 rfl rfl
set_option maxRecDepth 20000 in
theorem wnX6_ends : Cond.instanceMethod yX6_ends ∈ tbG := tbk3 216 rfl rfl
set_option maxRecDepth 20000 in
theorem weX6_ends : Cond.selects RX6 yX6_ends yX6_ends ∈ tbG := tbk3 217 rfl rfl
set_option maxRecDepth 20000 in
theorem wcX7_find : Cond.code MX7_find.1 MX7_find.2.1 MX7_find.2.2.1 MX7_find.2.2.2.1 ∈ tbG := tbk4 61 rfl rfl
set_option maxRecDepth 20000 in
theorem wnX7_find : Cond.instanceMethod yX7_find ∈ tbG := tbk4 59 rfl rfl
set_option maxRecDepth 20000 in
theorem weX7_find : Cond.selects RX7 yX7_find yX7_find ∈ tbG := tbk4 60 rfl rfl
set_option maxRecDepth 20000 in
theorem wcX7_latestFinding : Cond.code MX7_latestFinding.1 MX7_latestFinding.2.1 MX7_latestFinding.2.2.1 MX7_latestFinding.2.2.2.1 ∈ tbG := tbk5 23 rfl rfl
set_option maxRecDepth 20000 in
theorem wnX7_latestFinding : Cond.instanceMethod yX7_latestFinding ∈ tbG := tbk5 21 rfl rfl
set_option maxRecDepth 20000 in
theorem weX7_latestFinding : Cond.selects RX7 yX7_latestFinding yX7_latestFinding ∈ tbG := tbk5 22 rfl rfl
set_option maxRecDepth 20000 in
theorem wcX7_isLost : Cond.code MX7_isLost.1 MX7_isLost.2.1 MX7_isLost.2.2.1 MX7_isLost.2.2.2.1 ∈ tbG := tbk4 57 rfl rfl
set_option maxRecDepth 20000 in
theorem wnX7_isLost : Cond.instanceMethod yX7_isLost ∈ tbG := tbk4 55 rfl rfl
set_option maxRecDepth 20000 in
theorem weX7_isLost : Cond.selects RX7 yX7_isLost yX7_isLost ∈ tbG := tbk4 56 rfl rfl
set_option maxRecDepth 20000 in
theorem wcX7_size : Cond.code MX7_size.1 MX7_size.2.1 MX7_size.2.2.1 MX7_size.2.2.2.1 ∈ tbG := tbk4 65 rfl rfl
set_option maxRecDepth 20000 in
theorem wnX7_size : Cond.instanceMethod yX7_size ∈ tbG := tbk4 63 rfl rfl
set_option maxRecDepth 20000 in
theorem weX7_size : Cond.selects RX7 yX7_size yX7_size ∈ tbG := tbk4 64 rfl rfl
set_option maxRecDepth 20000 in
theorem wcX7_make : Cond.code MX7_make.1 MX7_make.2.1 MX7_make.2.2.1 MX7_make.2.2.2.1 ∈ tbG := tbk4 197 rfl rfl
set_option maxRecDepth 20000 in
theorem wnX7_make : Cond.instanceMethod yX7_make ∈ tbG := tbk4 195 rfl rfl
set_option maxRecDepth 20000 in
theorem weX7_make : Cond.selects RX7 yX7_make yX7_make ∈ tbG := tbk4 196 rfl rfl
set_option maxRecDepth 20000 in
theorem wcX7_drop : Cond.code MX7_drop.1 MX7_drop.2.1 MX7_drop.2.2.1 MX7_drop.2.2.2.1 ∈ tbG := tbk4 205 rfl rfl
set_option maxRecDepth 20000 in
theorem wnX7_drop : Cond.instanceMethod yX7_drop ∈ tbG := tbk4 203 rfl rfl
set_option maxRecDepth 20000 in
theorem weX7_drop : Cond.selects RX7 yX7_drop yX7_drop ∈ tbG := tbk4 204 rfl rfl
set_option maxRecDepth 20000 in
theorem wcX7_findingAt : Cond.code MX7_findingAt.1 MX7_findingAt.2.1 MX7_findingAt.2.2.1 MX7_findingAt.2.2.2.1 ∈ tbG := tbk4 213 rfl rfl
set_option maxRecDepth 20000 in
theorem wnX7_findingAt : Cond.instanceMethod yX7_findingAt ∈ tbG := tbk4 211 rfl rfl
set_option maxRecDepth 20000 in
theorem weX7_findingAt : Cond.selects RX7 yX7_findingAt yX7_findingAt ∈ tbG := tbk4 212 rfl rfl
set_option maxRecDepth 20000 in
theorem wcX7_hasRun : Cond.code MX7_hasRun.1 MX7_hasRun.2.1 MX7_hasRun.2.2.1 MX7_hasRun.2.2.2.1 ∈ tbG := tbk4 235 rfl rfl
set_option maxRecDepth 20000 in
theorem wnX7_hasRun : Cond.instanceMethod yX7_hasRun ∈ tbG := tbk4 234 rfl rfl
theorem weX7_hasRun : Cond.selects RX7 yX7_hasRun yX7_hasRun ∈ tbG := tb_ps 41 (by decide +kernel) rfl
set_option maxRecDepth 20000 in
theorem wcX7_findingOfCopy : Cond.code MX7_findingOfCopy.1 MX7_findingOfCopy.2.1 MX7_findingOfCopy.2.2.1 MX7_findingOfCopy.2.2.2.1 ∈ tbG := tbk4 231 rfl rfl
set_option maxRecDepth 20000 in
theorem wnX7_findingOfCopy : Cond.instanceMethod yX7_findingOfCopy ∈ tbG := tbk4 229 rfl rfl
set_option maxRecDepth 20000 in
theorem weX7_findingOfCopy : Cond.selects RX7 yX7_findingOfCopy yX7_findingOfCopy ∈ tbG := tbk4 230 rfl rfl
set_option maxRecDepth 20000 in
theorem wcX7_item : Cond.code MX7_item.1 MX7_item.2.1 MX7_item.2.2.1 MX7_item.2.2.2.1 ∈ tbG := tbk4 69 rfl rfl
set_option maxRecDepth 20000 in
theorem wnX7_item : Cond.instanceMethod yX7_item ∈ tbG := tbk4 67 rfl rfl
set_option maxRecDepth 20000 in
theorem weX7_item : Cond.selects RX7 yX7_item yX7_item ∈ tbG := tbk4 68 rfl rfl
set_option maxRecDepth 20000 in
theorem wcX7_put : Cond.code MX7_put.1 MX7_put.2.1 MX7_put.2.2.1 MX7_put.2.2.2.1 ∈ tbG := tbk4 218 rfl rfl
set_option maxRecDepth 20000 in
theorem wnX7_put : Cond.instanceMethod yX7_put ∈ tbG := tbk4 216 rfl rfl
set_option maxRecDepth 20000 in
theorem weX7_put : Cond.selects RX7 yX7_put yX7_put ∈ tbG := tbk4 217 rfl rfl
set_option maxRecDepth 20000 in
theorem wcX7_move : Cond.code MX7_move.1 MX7_move.2.1 MX7_move.2.2.1 MX7_move.2.2.2.1 ∈ tbG := tbk4 239 rfl rfl
set_option maxRecDepth 20000 in
theorem wnX7_move : Cond.instanceMethod yX7_move ∈ tbG := tbk4 237 rfl rfl
set_option maxRecDepth 20000 in
theorem weX7_move : Cond.selects RX7 yX7_move yX7_move ∈ tbG := tbk4 238 rfl rfl
set_option maxRecDepth 20000 in
theorem wcX8_isFull : Cond.code MX8_isFull.1 MX8_isFull.2.1 MX8_isFull.2.2.1 MX8_isFull.2.2.2.1 ∈ tbG := tbk2 62 rfl rfl
set_option maxRecDepth 20000 in
theorem wnX8_isFull : Cond.instanceMethod yX8_isFull ∈ tbG := tbk2 60 rfl rfl
set_option maxRecDepth 20000 in
theorem weX8_isFull : Cond.selects RX8 yX8_isFull yX8_isFull ∈ tbG := tbk2 61 rfl rfl
set_option maxRecDepth 20000 in
theorem wcX8_append : Cond.code MX8_append.1 MX8_append.2.1 MX8_append.2.2.1 MX8_append.2.2.2.1 ∈ tbG := tbk2 66 rfl rfl
set_option maxRecDepth 20000 in
theorem wnX8_append : Cond.instanceMethod yX8_append ∈ tbG := tbk2 64 rfl rfl
set_option maxRecDepth 20000 in
theorem weX8_append : Cond.selects RX8 yX8_append yX8_append ∈ tbG := tbk2 65 rfl rfl
set_option maxRecDepth 20000 in
theorem wcX8_empty : Cond.code MX8_empty.1 MX8_empty.2.1 MX8_empty.2.2.1 MX8_empty.2.2.2.1 ∈ tbG := tbk2 113 rfl rfl
set_option maxRecDepth 20000 in
theorem wnX8_empty : Cond.instanceMethod yX8_empty ∈ tbG := tbk2 111 rfl rfl
set_option maxRecDepth 20000 in
theorem weX8_empty : Cond.selects RX8 yX8_empty yX8_empty ∈ tbG := tbk2 112 rfl rfl
set_option maxRecDepth 20000 in
theorem wcX9_joinTowns : Cond.code MX9_joinTowns.1 MX9_joinTowns.2.1 MX9_joinTowns.2.2.1 MX9_joinTowns.2.2.2.1 ∈ tbG := tbk3 232 rfl rfl
set_option maxRecDepth 20000 in
theorem wnX9_joinTowns : Cond.instanceMethod yX9_joinTowns ∈ tbG := tbk3 231 rfl rfl
theorem weX9_joinTowns : Cond.selects RX9 yX9_joinTowns yX9_joinTowns ∈ tbG := tb_ps 28 (by decide +kernel) rfl
set_option maxRecDepth 20000 in
theorem wcX9_goOnByLanes : Cond.code MX9_goOnByLanes.1 MX9_goOnByLanes.2.1 MX9_goOnByLanes.2.2.1 MX9_goOnByLanes.2.2.2.1 ∈ tbG := tbk4 12 rfl rfl
set_option maxRecDepth 20000 in
theorem wnX9_goOnByLanes : Cond.instanceMethod yX9_goOnByLanes ∈ tbG := tbk4 11 rfl rfl
theorem weX9_goOnByLanes : Cond.selects RX9 yX9_goOnByLanes yX9_goOnByLanes ∈ tbG := tb_ps 31 (by decide +kernel) rfl
set_option maxRecDepth 20000 in
theorem wcX9_behindRounds : Cond.code MX9_behindRounds.1 MX9_behindRounds.2.1 MX9_behindRounds.2.2.1 MX9_behindRounds.2.2.2.1 ∈ tbG := tbk4 18 rfl rfl
set_option maxRecDepth 20000 in
theorem wnX9_behindRounds : Cond.instanceMethod yX9_behindRounds ∈ tbG := tbk4 17 rfl rfl
theorem weX9_behindRounds : Cond.selects RX9 yX9_behindRounds yX9_behindRounds ∈ tbG := tb_ps 32 (by decide +kernel) rfl
set_option maxRecDepth 20000 in
theorem wcX9_lengthen : Cond.code MX9_lengthen.1 MX9_lengthen.2.1 MX9_lengthen.2.2.1 MX9_lengthen.2.2.2.1 ∈ tbG := tbk4 8 rfl rfl
set_option maxRecDepth 20000 in
theorem wnX9_lengthen : Cond.instanceMethod yX9_lengthen ∈ tbG := tbk4 7 rfl rfl
theorem weX9_lengthen : Cond.selects RX9 yX9_lengthen yX9_lengthen ∈ tbG := tb_ps 30 (by decide +kernel) rfl
set_option maxRecDepth 20000 in
theorem wcX9_countRounds : Cond.code MX9_countRounds.1 MX9_countRounds.2.1 MX9_countRounds.2.2.1 MX9_countRounds.2.2.2.1 ∈ tbG := tbk3 239 rfl rfl
set_option maxRecDepth 20000 in
theorem wnX9_countRounds : Cond.instanceMethod yX9_countRounds ∈ tbG := tbk3 238 rfl rfl
theorem weX9_countRounds : Cond.selects RX9 yX9_countRounds yX9_countRounds ∈ tbG := tb_ps 29 (by decide +kernel) rfl
set_option maxRecDepth 20000 in
theorem wcX9_countFrom : Cond.code MX9_countFrom.1 MX9_countFrom.2.1 MX9_countFrom.2.2.1 MX9_countFrom.2.2.2.1 ∈ tbG := tbk4 22 rfl rfl
set_option maxRecDepth 20000 in
theorem wnX9_countFrom : Cond.instanceMethod yX9_countFrom ∈ tbG := tbk4 21 rfl rfl
theorem weX9_countFrom : Cond.selects RX9 yX9_countFrom yX9_countFrom ∈ tbG := tb_ps 33 (by decide +kernel) rfl
set_option maxRecDepth 20000 in
theorem wcX9_stampForGood : Cond.code MX9_stampForGood.1 MX9_stampForGood.2.1 MX9_stampForGood.2.2.1 MX9_stampForGood.2.2.2.1 ∈ tbG := tbk4 27 rfl rfl
set_option maxRecDepth 20000 in
theorem wnX9_stampForGood : Cond.instanceMethod yX9_stampForGood ∈ tbG := tbk4 26 rfl rfl
theorem weX9_stampForGood : Cond.selects RX9 yX9_stampForGood yX9_stampForGood ∈ tbG := tb_ps 34 (by decide +kernel) rfl
set_option maxRecDepth 20000 in
theorem wcX9_number : Cond.code MX9_number.1 MX9_number.2.1 MX9_number.2.2.1 MX9_number.2.2.2.1 ∈ tbG := tbk3 226 rfl rfl
set_option maxRecDepth 20000 in
theorem wnX9_number : Cond.instanceMethod yX9_number ∈ tbG := tbk3 224 rfl rfl
set_option maxRecDepth 20000 in
theorem weX9_number : Cond.selects RX9 yX9_number yX9_number ∈ tbG := tbk3 225 rfl rfl
set_option maxRecDepth 20000 in
theorem wcX10_isText : Cond.code MX10_isText.1 MX10_isText.2.1 MX10_isText.2.2.1 MX10_isText.2.2.2.1 ∈ tbG := tbk2 58 rfl rfl
set_option maxRecDepth 20000 in
theorem wsX10_isText : Cond.static yX10_isText ∈ tbG := tbk2 57 rfl rfl
set_option maxRecDepth 20000 in
theorem wcX10_learnIfLand : Cond.code MX10_learnIfLand.1 MX10_learnIfLand.2.1 MX10_learnIfLand.2.2.1 MX10_learnIfLand.2.2.2.1 ∈ tbG := tbk2 70 rfl rfl
set_option maxRecDepth 20000 in
theorem wnX10_learnIfLand : Cond.instanceMethod yX10_learnIfLand ∈ tbG := tbk2 69 rfl rfl
theorem weX10_learnIfLand : Cond.selects RX10 yX10_learnIfLand yX10_learnIfLand ∈ tbG := tb_ps 0 (by decide +kernel) rfl
set_option maxRecDepth 20000 in
theorem wcX10_type : Cond.code MX10_type.1 MX10_type.2.1 MX10_type.2.2.1 MX10_type.2.2.2.1 ∈ tbG := tbk2 55 rfl rfl
set_option maxRecDepth 20000 in
theorem wnX10_type : Cond.instanceMethod yX10_type ∈ tbG := tbk2 53 rfl rfl
set_option maxRecDepth 20000 in
theorem weX10_type : Cond.selects RX10 yX10_type yX10_type ∈ tbG := tbk2 54 rfl rfl
set_option maxRecDepth 20000 in
theorem wcX10_wipe : Cond.code MX10_wipe.1 MX10_wipe.2.1 MX10_wipe.2.2.1 MX10_wipe.2.2.2.1 ∈ tbG := tbk2 109 rfl rfl
set_option maxRecDepth 20000 in
theorem wnX10_wipe : Cond.instanceMethod yX10_wipe ∈ tbG := tbk2 107 rfl rfl
set_option maxRecDepth 20000 in
theorem weX10_wipe : Cond.selects RX10 yX10_wipe yX10_wipe ∈ tbG := tbk2 108 rfl rfl
set_option maxRecDepth 20000 in
theorem wcX10_wayFault : Cond.code MX10_wayFault.1 MX10_wayFault.2.1 MX10_wayFault.2.2.1 MX10_wayFault.2.2.2.1 ∈ tbG := tbk2 125 rfl rfl
set_option maxRecDepth 20000 in
theorem wnX10_wayFault : Cond.instanceMethod yX10_wayFault ∈ tbG := tbk2 124 rfl rfl
theorem weX10_wayFault : Cond.selects RX10 yX10_wayFault yX10_wayFault ∈ tbG := tb_ps 5 (by decide +kernel) rfl
set_option maxRecDepth 20000 in
theorem wcX10_fault : Cond.code MX10_fault.1 MX10_fault.2.1 MX10_fault.2.2.1 MX10_fault.2.2.2.1 ∈ tbG := tbk2 117 rfl rfl
set_option maxRecDepth 20000 in
theorem wnX10_fault : Cond.instanceMethod yX10_fault ∈ tbG := tbk2 115 rfl rfl
set_option maxRecDepth 20000 in
theorem weX10_fault : Cond.selects RX10 yX10_fault yX10_fault ∈ tbG := tbk2 116 rfl rfl
set_option maxRecDepth 20000 in
theorem wcX10_gate : Cond.code MX10_gate.1 MX10_gate.2.1 MX10_gate.2.2.1 MX10_gate.2.2.2.1 ∈ tbG := tbk2 134 rfl rfl
set_option maxRecDepth 20000 in
theorem wnX10_gate : Cond.instanceMethod yX10_gate ∈ tbG := tbk2 132 rfl rfl
set_option maxRecDepth 20000 in
theorem weX10_gate : Cond.selects RX10 yX10_gate yX10_gate ∈ tbG := tbk2 133 rfl rfl
set_option maxRecDepth 20000 in
theorem wcX10_room : Cond.code MX10_room.1 MX10_room.2.1 MX10_room.2.2.1 MX10_room.2.2.2.1 ∈ tbG := tbk2 158 rfl rfl
set_option maxRecDepth 20000 in
theorem wnX10_room : Cond.instanceMethod yX10_room ∈ tbG := tbk2 156 rfl rfl
set_option maxRecDepth 20000 in
theorem weX10_room : Cond.selects RX10 yX10_room yX10_room ∈ tbG := tbk2 157 rfl rfl
set_option maxRecDepth 20000 in
theorem wcX10_shut : Cond.code MX10_shut.1 MX10_shut.2.1 MX10_shut.2.2.1 MX10_shut.2.2.2.1 ∈ tbG := tbk2 166 rfl rfl
set_option maxRecDepth 20000 in
theorem wnX10_shut : Cond.instanceMethod yX10_shut ∈ tbG := tbk2 164 rfl rfl
set_option maxRecDepth 20000 in
theorem weX10_shut : Cond.selects RX10 yX10_shut yX10_shut ∈ tbG := tbk2 165 rfl rfl
set_option maxRecDepth 20000 in
theorem wcX10_isWay : Cond.code MX10_isWay.1 MX10_isWay.2.1 MX10_isWay.2.2.1 MX10_isWay.2.2.2.1 ∈ tbG := tbk2 177 rfl rfl
set_option maxRecDepth 20000 in
theorem wsX10_isWay : Cond.static yX10_isWay ∈ tbG := tbk2 176 rfl rfl
set_option maxRecDepth 20000 in
theorem wcX10_stampWay : Cond.code MX10_stampWay.1 MX10_stampWay.2.1 MX10_stampWay.2.2.1 MX10_stampWay.2.2.2.1 ∈ tbG := tbk2 181 rfl rfl
set_option maxRecDepth 20000 in
theorem wnX10_stampWay : Cond.instanceMethod yX10_stampWay ∈ tbG := tbk2 180 rfl rfl
theorem weX10_stampWay : Cond.selects RX10 yX10_stampWay yX10_stampWay ∈ tbG := tb_ps 6 (by decide +kernel) rfl
set_option maxRecDepth 20000 in
theorem wcX10_byteOf : Cond.code MX10_byteOf.1 MX10_byteOf.2.1 MX10_byteOf.2.2.1 MX10_byteOf.2.2.2.1 ∈ tbG := tbk2 204 rfl rfl
set_option maxRecDepth 20000 in
theorem wsX10_byteOf : Cond.static yX10_byteOf ∈ tbG := tbk2 203 rfl rfl
set_option maxRecDepth 20000 in
theorem wcX10_paper : Cond.code MX10_paper.1 MX10_paper.2.1 MX10_paper.2.2.1 MX10_paper.2.2.2.1 ∈ tbG := tbk2 174 rfl rfl
set_option maxRecDepth 20000 in
theorem wnX10_paper : Cond.instanceMethod yX10_paper ∈ tbG := tbk2 172 rfl rfl
set_option maxRecDepth 20000 in
theorem weX10_paper : Cond.selects RX10 yX10_paper yX10_paper ∈ tbG := tbk2 173 rfl rfl
set_option maxRecDepth 20000 in
theorem wcX10_isWayOrClean : Cond.code MX10_isWayOrClean.1 MX10_isWayOrClean.2.1 MX10_isWayOrClean.2.2.1 MX10_isWayOrClean.2.2.2.1 ∈ tbG := tbk2 214 rfl rfl
set_option maxRecDepth 20000 in
theorem wsX10_isWayOrClean : Cond.static yX10_isWayOrClean ∈ tbG := tbk2 213 rfl rfl
set_option maxRecDepth 20000 in
theorem wcX10_judgeWay : Cond.code MX10_judgeWay.1 MX10_judgeWay.2.1 MX10_judgeWay.2.2.1 MX10_judgeWay.2.2.2.1 ∈ tbG := tbk2 218 rfl rfl
set_option maxRecDepth 20000 in
theorem wnX10_judgeWay : Cond.instanceMethod yX10_judgeWay ∈ tbG := tbk2 217 rfl rfl
theorem weX10_judgeWay : Cond.selects RX10 yX10_judgeWay yX10_judgeWay ∈ tbG := tb_ps 7 (by decide +kernel) rfl
set_option maxRecDepth 20000 in
theorem wcX10_judged : Cond.code MX10_judged.1 MX10_judged.2.1 MX10_judged.2.2.1 MX10_judged.2.2.2.1 ∈ tbG := tbk2 208 rfl rfl
set_option maxRecDepth 20000 in
theorem wnX10_judged : Cond.instanceMethod yX10_judged ∈ tbG := tbk2 206 rfl rfl
set_option maxRecDepth 20000 in
theorem weX10_judged : Cond.selects RX10 yX10_judged yX10_judged ∈ tbG := tbk2 207 rfl rfl
set_option maxRecDepth 20000 in
theorem wcX10_same : Cond.code MX10_same.1 MX10_same.2.1 MX10_same.2.2.1 MX10_same.2.2.2.1 ∈ tbG := tbk3 20 rfl rfl
set_option maxRecDepth 20000 in
theorem wnX10_same : Cond.instanceMethod yX10_same ∈ tbG := tbk3 18 rfl rfl
set_option maxRecDepth 20000 in
theorem weX10_same : Cond.selects RX10 yX10_same yX10_same ∈ tbG := tbk3 19 rfl rfl
set_option maxRecDepth 20000 in
theorem wcX10_areEnds : Cond.code MX10_areEnds.1 MX10_areEnds.2.1 MX10_areEnds.2.2.1 MX10_areEnds.2.2.2.1 ∈ tbG := tbk3 34 rfl rfl
set_option maxRecDepth 20000 in
theorem wsX10_areEnds : Cond.static yX10_areEnds ∈ tbG := tbk3 33 rfl rfl
set_option maxRecDepth 20000 in
theorem wcX10_longRefusal : Cond.code MX10_longRefusal.1 MX10_longRefusal.2.1 MX10_longRefusal.2.2.1 MX10_longRefusal.2.2.2.1 ∈ tbG := tbk3 37 rfl rfl
set_option maxRecDepth 20000 in
theorem wsX10_longRefusal : Cond.static yX10_longRefusal ∈ tbG := tbk3 36 rfl rfl
set_option maxRecDepth 20000 in
theorem wcX10_planRoute : Cond.code MX10_planRoute.1 MX10_planRoute.2.1 MX10_planRoute.2.2.1 MX10_planRoute.2.2.2.1 ∈ tbG := tbk3 42 rfl rfl
set_option maxRecDepth 20000 in
theorem wnX10_planRoute : Cond.instanceMethod yX10_planRoute ∈ tbG := tbk3 41 rfl rfl
theorem weX10_planRoute : Cond.selects RX10 yX10_planRoute yX10_planRoute ∈ tbG := tb_ps 10 (by decide +kernel) rfl
set_option maxRecDepth 20000 in
theorem wcX10_shortest : Cond.code MX10_shortest.1 MX10_shortest.2.1 MX10_shortest.2.2.1 MX10_shortest.2.2.2.1 ∈ tbG := tbk3 31 rfl rfl
set_option maxRecDepth 20000 in
theorem wnX10_shortest : Cond.instanceMethod yX10_shortest ∈ tbG := tbk3 29 rfl rfl
set_option maxRecDepth 20000 in
theorem weX10_shortest : Cond.selects RX10 yX10_shortest yX10_shortest ∈ tbG := tbk3 30 rfl rfl
set_option maxRecDepth 20000 in
theorem wcX10_letter : Cond.code MX10_letter.1 MX10_letter.2.1 MX10_letter.2.2.1 MX10_letter.2.2.2.1 ∈ tbG := tbk3 137 rfl rfl
set_option maxRecDepth 20000 in
theorem wnX10_letter : Cond.instanceMethod yX10_letter ∈ tbG := tbk3 135 rfl rfl
set_option maxRecDepth 20000 in
theorem weX10_letter : Cond.selects RX10 yX10_letter yX10_letter ∈ tbG := tbk3 136 rfl rfl
set_option maxRecDepth 20000 in
theorem wcX10_errands : Cond.code MX10_errands.1 MX10_errands.2.1 MX10_errands.2.2.1 MX10_errands.2.2.2.1 ∈ tbG := tbk3 153 rfl rfl
set_option maxRecDepth 20000 in
theorem wnX10_errands : Cond.instanceMethod yX10_errands ∈ tbG := tbk3 151 rfl rfl
set_option maxRecDepth 20000 in
theorem weX10_errands : Cond.selects RX10 yX10_errands yX10_errands ∈ tbG := tbk3 152 rfl rfl
set_option maxRecDepth 20000 in
theorem wcX10_clean : Cond.code MX10_clean.1 MX10_clean.2.1 MX10_clean.2.2.1 MX10_clean.2.2.2.1 ∈ tbG := tbk3 192 rfl rfl
set_option maxRecDepth 20000 in
theorem wnX10_clean : Cond.instanceMethod yX10_clean ∈ tbG := tbk3 190 rfl rfl
set_option maxRecDepth 20000 in
theorem weX10_clean : Cond.selects RX10 yX10_clean yX10_clean ∈ tbG := tbk3 191 rfl rfl
set_option maxRecDepth 20000 in
theorem wcX10_found : Cond.code MX10_found.1 MX10_found.2.1 MX10_found.2.2.1 MX10_found.2.2.2.1 ∈ tbG := tbk3 200 rfl rfl
set_option maxRecDepth 20000 in
theorem wnX10_found : Cond.instanceMethod yX10_found ∈ tbG := tbk3 198 rfl rfl
set_option maxRecDepth 20000 in
theorem weX10_found : Cond.selects RX10 yX10_found yX10_found ∈ tbG := tbk3 199 rfl rfl
set_option maxRecDepth 20000 in
theorem wcX10_many : Cond.code MX10_many.1 MX10_many.2.1 MX10_many.2.2.1 MX10_many.2.2.2.1 ∈ tbG := tbk3 222 rfl rfl
set_option maxRecDepth 20000 in
theorem wnX10_many : Cond.instanceMethod yX10_many ∈ tbG := tbk3 220 rfl rfl
set_option maxRecDepth 20000 in
theorem weX10_many : Cond.selects RX10 yX10_many yX10_many ∈ tbG := tbk3 221 rfl rfl
set_option maxRecDepth 20000 in
theorem wcX10_list : Cond.code MX10_list.1 MX10_list.2.1 MX10_list.2.2.1 MX10_list.2.2.2.1 ∈ tbG := tbk4 31 rfl rfl
set_option maxRecDepth 20000 in
theorem wnX10_list : Cond.instanceMethod yX10_list ∈ tbG := tbk4 29 rfl rfl
set_option maxRecDepth 20000 in
theorem weX10_list : Cond.selects RX10 yX10_list yX10_list ∈ tbG := tbk4 30 rfl rfl
set_option maxRecDepth 20000 in
theorem wcX10_isSheet : Cond.code MX10_isSheet.1 MX10_isSheet.2.1 MX10_isSheet.2.2.1 MX10_isSheet.2.2.2.1 ∈ tbG := tbk4 53 rfl rfl
set_option maxRecDepth 20000 in
theorem wsX10_isSheet : Cond.static yX10_isSheet ∈ tbG := tbk4 52 rfl rfl
set_option maxRecDepth 20000 in
theorem wcX10_listIfRoom : Cond.code MX10_listIfRoom.1 MX10_listIfRoom.2.1 MX10_listIfRoom.2.2.1 MX10_listIfRoom.2.2.2.1 ∈ tbG := tbk4 73 rfl rfl
set_option maxRecDepth 20000 in
theorem wnX10_listIfRoom : Cond.instanceMethod yX10_listIfRoom ∈ tbG := tbk4 72 rfl rfl
theorem weX10_listIfRoom : Cond.selects RX10 yX10_listIfRoom yX10_listIfRoom ∈ tbG := tb_ps 35 (by decide +kernel) rfl
set_option maxRecDepth 20000 in
theorem wcX10_read : Cond.code MX10_read.1 MX10_read.2.1 MX10_read.2.2.1 MX10_read.2.2.2.1 ∈ tbG := tbk4 50 rfl rfl
set_option maxRecDepth 20000 in
theorem wnX10_read : Cond.instanceMethod yX10_read ∈ tbG := tbk4 48 rfl rfl
set_option maxRecDepth 20000 in
theorem weX10_read : Cond.selects RX10 yX10_read yX10_read ∈ tbG := tbk4 49 rfl rfl
set_option maxRecDepth 20000 in
theorem wcX10_unlist : Cond.code MX10_unlist.1 MX10_unlist.2.1 MX10_unlist.2.2.1 MX10_unlist.2.2.2.1 ∈ tbG := tbk4 77 rfl rfl
set_option maxRecDepth 20000 in
theorem wnX10_unlist : Cond.instanceMethod yX10_unlist ∈ tbG := tbk4 75 rfl rfl
set_option maxRecDepth 20000 in
theorem weX10_unlist : Cond.selects RX10 yX10_unlist yX10_unlist ∈ tbG := tbk4 76 rfl rfl
set_option maxRecDepth 20000 in
theorem wcX10_listed : Cond.code MX10_listed.1 MX10_listed.2.1 MX10_listed.2.2.1 MX10_listed.2.2.2.1 ∈ tbG := tbk4 86 rfl rfl
set_option maxRecDepth 20000 in
theorem wnX10_listed : Cond.instanceMethod yX10_listed ∈ tbG := tbk4 84 rfl rfl
set_option maxRecDepth 20000 in
theorem weX10_listed : Cond.selects RX10 yX10_listed yX10_listed ∈ tbG := tbk4 85 rfl rfl
set_option maxRecDepth 20000 in
theorem wcX10_arePlaces : Cond.code MX10_arePlaces.1 MX10_arePlaces.2.1 MX10_arePlaces.2.2.1 MX10_arePlaces.2.2.2.1 ∈ tbG := tbk4 101 rfl rfl
set_option maxRecDepth 20000 in
theorem wsX10_arePlaces : Cond.static yX10_arePlaces ∈ tbG := tbk4 100 rfl rfl
set_option maxRecDepth 20000 in
theorem wcX10_lets : Cond.code MX10_lets.1 MX10_lets.2.1 MX10_lets.2.2.1 MX10_lets.2.2.2.1 ∈ tbG := tbk4 98 rfl rfl
set_option maxRecDepth 20000 in
theorem wnX10_lets : Cond.instanceMethod yX10_lets ∈ tbG := tbk4 96 rfl rfl
set_option maxRecDepth 20000 in
theorem weX10_lets : Cond.selects RX10 yX10_lets yX10_lets ∈ tbG := tbk4 97 rfl rfl
set_option maxRecDepth 20000 in
theorem wcX10_slips : Cond.code MX10_slips.1 MX10_slips.2.1 MX10_slips.2.2.1 MX10_slips.2.2.2.1 ∈ tbG := tbk4 114 rfl rfl
set_option maxRecDepth 20000 in
theorem wnX10_slips : Cond.instanceMethod yX10_slips ∈ tbG := tbk4 112 rfl rfl
set_option maxRecDepth 20000 in
theorem weX10_slips : Cond.selects RX10 yX10_slips yX10_slips ∈ tbG := tbk4 113 rfl rfl
set_option maxRecDepth 20000 in
theorem wcX10_fewest : Cond.code MX10_fewest.1 MX10_fewest.2.1 MX10_fewest.2.2.1 MX10_fewest.2.2.2.1 ∈ tbG := tbk4 130 rfl rfl
set_option maxRecDepth 20000 in
theorem wnX10_fewest : Cond.instanceMethod yX10_fewest ∈ tbG := tbk4 128 rfl rfl
set_option maxRecDepth 20000 in
theorem weX10_fewest : Cond.selects RX10 yX10_fewest yX10_fewest ∈ tbG := tbk4 129 rfl rfl
set_option maxRecDepth 20000 in
theorem wcX10_far : Cond.code MX10_far.1 MX10_far.2.1 MX10_far.2.2.1 MX10_far.2.2.2.1 ∈ tbG := tbk4 152 rfl rfl
set_option maxRecDepth 20000 in
theorem wnX10_far : Cond.instanceMethod yX10_far ∈ tbG := tbk4 150 rfl rfl
set_option maxRecDepth 20000 in
theorem weX10_far : Cond.selects RX10 yX10_far yX10_far ∈ tbG := tbk4 151 rfl rfl
set_option maxRecDepth 20000 in
theorem wcX10_without : Cond.code MX10_without.1 MX10_without.2.1 MX10_without.2.2.1 MX10_without.2.2.2.1 ∈ tbG := tbk4 165 rfl rfl
set_option maxRecDepth 20000 in
theorem wnX10_without : Cond.instanceMethod yX10_without ∈ tbG := tbk4 163 rfl rfl
set_option maxRecDepth 20000 in
theorem weX10_without : Cond.selects RX10 yX10_without yX10_without ∈ tbG := tbk4 164 rfl rfl
set_option maxRecDepth 20000 in
theorem wcX10_with : Cond.code MX10_with.1 MX10_with.2.1 MX10_with.2.2.1 MX10_with.2.2.2.1 ∈ tbG := tbk4 182 rfl rfl
set_option maxRecDepth 20000 in
theorem wnX10_with : Cond.instanceMethod yX10_with ∈ tbG := tbk4 180 rfl rfl
set_option maxRecDepth 20000 in
theorem weX10_with : Cond.selects RX10 yX10_with yX10_with ∈ tbG := tbk4 181 rfl rfl
set_option maxRecDepth 20000 in
theorem wcX10_isForm : Cond.code MX10_isForm.1 MX10_isForm.2.1 MX10_isForm.2.2.1 MX10_isForm.2.2.2.1 ∈ tbG := tbk4 193 rfl rfl
set_option maxRecDepth 20000 in
theorem wsX10_isForm : Cond.static yX10_isForm ∈ tbG := tbk4 192 rfl rfl
set_option maxRecDepth 20000 in
theorem wcX10_sheet : Cond.code MX10_sheet.1 MX10_sheet.2.1 MX10_sheet.2.2.1 MX10_sheet.2.2.2.1 ∈ tbG := tbk4 190 rfl rfl
set_option maxRecDepth 20000 in
theorem wnX10_sheet : Cond.instanceMethod yX10_sheet ∈ tbG := tbk4 188 rfl rfl
set_option maxRecDepth 20000 in
theorem weX10_sheet : Cond.selects RX10 yX10_sheet yX10_sheet ∈ tbG := tbk4 189 rfl rfl
set_option maxRecDepth 20000 in
theorem wcX10_lose : Cond.code MX10_lose.1 MX10_lose.2.1 MX10_lose.2.2.1 MX10_lose.2.2.2.1 ∈ tbG := tbk4 201 rfl rfl
set_option maxRecDepth 20000 in
theorem wnX10_lose : Cond.instanceMethod yX10_lose ∈ tbG := tbk4 199 rfl rfl
set_option maxRecDepth 20000 in
theorem weX10_lose : Cond.selects RX10 yX10_lose yX10_lose ∈ tbG := tbk4 200 rfl rfl
set_option maxRecDepth 20000 in
theorem wcX10_lay : Cond.code MX10_lay.1 MX10_lay.2.1 MX10_lay.2.2.1 MX10_lay.2.2.2.1 ∈ tbG := tbk4 209 rfl rfl
set_option maxRecDepth 20000 in
theorem wnX10_lay : Cond.instanceMethod yX10_lay ∈ tbG := tbk4 207 rfl rfl
set_option maxRecDepth 20000 in
theorem weX10_lay : Cond.selects RX10 yX10_lay yX10_lay ∈ tbG := tbk4 208 rfl rfl
set_option maxRecDepth 20000 in
theorem wcX10_get : Cond.code MX10_get.1 MX10_get.2.1 MX10_get.2.2.1 MX10_get.2.2.2.1 ∈ tbG := tbk4 222 rfl rfl
set_option maxRecDepth 20000 in
theorem wnX10_get : Cond.instanceMethod yX10_get ∈ tbG := tbk4 220 rfl rfl
set_option maxRecDepth 20000 in
theorem weX10_get : Cond.selects RX10 yX10_get yX10_get ∈ tbG := tbk4 221 rfl rfl
set_option maxRecDepth 20000 in
theorem wcX10_copy : Cond.code MX10_copy.1 MX10_copy.2.1 MX10_copy.2.2.1 MX10_copy.2.2.2.1 ∈ tbG := tbk4 227 rfl rfl
set_option maxRecDepth 20000 in
theorem wnX10_copy : Cond.instanceMethod yX10_copy ∈ tbG := tbk4 225 rfl rfl
set_option maxRecDepth 20000 in
theorem weX10_copy : Cond.selects RX10 yX10_copy yX10_copy ∈ tbG := tbk4 226 rfl rfl
set_option maxRecDepth 20000 in
theorem wcX10_write : Cond.code MX10_write.1 MX10_write.2.1 MX10_write.2.2.1 MX10_write.2.2.2.1 ∈ tbG := tbk5 4 rfl rfl
set_option maxRecDepth 20000 in
theorem wnX10_write : Cond.instanceMethod yX10_write ∈ tbG := tbk5 2 rfl rfl
set_option maxRecDepth 20000 in
theorem weX10_write : Cond.selects RX10 yX10_write yX10_write ∈ tbG := tbk5 3 rfl rfl
set_option maxRecDepth 20000 in
theorem wcX10_count : Cond.code MX10_count.1 MX10_count.2.1 MX10_count.2.2.1 MX10_count.2.2.2.1 ∈ tbG := tbk5 9 rfl rfl
set_option maxRecDepth 20000 in
theorem wnX10_count : Cond.instanceMethod yX10_count ∈ tbG := tbk5 7 rfl rfl
set_option maxRecDepth 20000 in
theorem weX10_count : Cond.selects RX10 yX10_count yX10_count ∈ tbG := tbk5 8 rfl rfl
set_option maxRecDepth 20000 in
theorem wcX10_digestGate : Cond.code MX10_digestGate.1 MX10_digestGate.2.1 MX10_digestGate.2.2.1 MX10_digestGate.2.2.2.1 ∈ tbG := tbk5 36 rfl rfl
set_option maxRecDepth 20000 in
theorem wnX10_digestGate : Cond.instanceMethod yX10_digestGate ∈ tbG := tbk5 35 rfl rfl
theorem weX10_digestGate : Cond.selects RX10 yX10_digestGate yX10_digestGate ∈ tbG := tb_ps 42 (by decide +kernel) rfl
set_option maxRecDepth 20000 in
theorem wcX10_digestWay : Cond.code MX10_digestWay.1 MX10_digestWay.2.1 MX10_digestWay.2.2.1 MX10_digestWay.2.2.2.1 ∈ tbG := tbk5 42 rfl rfl
set_option maxRecDepth 20000 in
theorem wnX10_digestWay : Cond.instanceMethod yX10_digestWay ∈ tbG := tbk5 41 rfl rfl
theorem weX10_digestWay : Cond.selects RX10 yX10_digestWay yX10_digestWay ∈ tbG := tb_ps 43 (by decide +kernel) rfl
set_option maxRecDepth 20000 in
theorem wcX10_digestTown : Cond.code MX10_digestTown.1 MX10_digestTown.2.1 MX10_digestTown.2.2.1 MX10_digestTown.2.2.2.1 ∈ tbG := tbk5 52 rfl rfl
set_option maxRecDepth 20000 in
theorem wnX10_digestTown : Cond.instanceMethod yX10_digestTown ∈ tbG := tbk5 51 rfl rfl
theorem weX10_digestTown : Cond.selects RX10 yX10_digestTown yX10_digestTown ∈ tbG := tb_ps 44 (by decide +kernel) rfl
set_option maxRecDepth 20000 in
theorem wcX10_digest : Cond.code MX10_digest.1 MX10_digest.2.1 MX10_digest.2.2.1 MX10_digest.2.2.2.1 ∈ tbG := tbk5 27 rfl rfl
set_option maxRecDepth 20000 in
theorem wnX10_digest : Cond.instanceMethod yX10_digest ∈ tbG := tbk5 25 rfl rfl
set_option maxRecDepth 20000 in
theorem weX10_digest : Cond.selects RX10 yX10_digest yX10_digest ∈ tbG := tbk5 26 rfl rfl
set_option maxRecDepth 20000 in
theorem wcX11_in : Cond.code MX11_in.1 MX11_in.2.1 MX11_in.2.2.1 MX11_in.2.2.2.1 ∈ tbG := tbk5 181 rfl rfl
set_option maxRecDepth 20000 in
theorem wsX11_in : Cond.static yX11_in ∈ tbG := tbk5 180 rfl rfl
set_option maxRecDepth 20000 in
theorem wcX11_no : Cond.code MX11_no.1 MX11_no.2.1 MX11_no.2.2.1 MX11_no.2.2.2.1 ∈ tbG := tbk6 142 rfl rfl
set_option maxRecDepth 20000 in
theorem wsX11_no : Cond.static yX11_no ∈ tbG := tbk6 141 rfl rfl
set_option maxRecDepth 20000 in
theorem wcX11_isTwo : Cond.code MX11_isTwo.1 MX11_isTwo.2.1 MX11_isTwo.2.2.1 MX11_isTwo.2.2.2.1 ∈ tbG := tbk6 114 rfl rfl
set_option maxRecDepth 20000 in
theorem wsX11_isTwo : Cond.static yX11_isTwo ∈ tbG := tbk6 113 rfl rfl
set_option maxRecDepth 20000 in
theorem wcX11_isTown : Cond.code MX11_isTown.1 MX11_isTown.2.1 MX11_isTown.2.2.1 MX11_isTown.2.2.2.1 ∈ tbG := tbk6 19 rfl rfl
set_option maxRecDepth 20000 in
theorem wsX11_isTown : Cond.static yX11_isTown ∈ tbG := tbk6 18 rfl rfl
set_option maxRecDepth 20000 in
theorem wcX11_met : Cond.code MX11_met.1 MX11_met.2.1 MX11_met.2.2.1 MX11_met.2.2.2.1 ∈ tbG := tbk5 186 rfl rfl
set_option maxRecDepth 20000 in
theorem wnX11_met : Cond.instanceMethod yX11_met ∈ tbG := tbk5 185 rfl rfl
theorem weX11_met : Cond.selects RX11 yX11_met yX11_met ∈ tbG := tb_ps 45 (by decide +kernel) rfl
set_option maxRecDepth 20000 in
theorem wcX11_isSheet : Cond.code MX11_isSheet.1 MX11_isSheet.2.1 MX11_isSheet.2.2.1 MX11_isSheet.2.2.2.1 ∈ tbG := tbk5 177 rfl rfl
set_option maxRecDepth 20000 in
theorem wsX11_isSheet : Cond.static yX11_isSheet ∈ tbG := tbk5 176 rfl rfl
set_option maxRecDepth 20000 in
theorem wcX11_sheet : Cond.code MX11_sheet.1 MX11_sheet.2.1 MX11_sheet.2.2.1 MX11_sheet.2.2.2.1 ∈ tbG := tbk5 174 rfl rfl
set_option maxRecDepth 20000 in
theorem wnX11_sheet : Cond.instanceMethod yX11_sheet ∈ tbG := tbk5 172 rfl rfl
set_option maxRecDepth 20000 in
theorem weX11_sheet : Cond.selects RX11 yX11_sheet yX11_sheet ∈ tbG := tbk5 173 rfl rfl
set_option maxRecDepth 20000 in
theorem wcX11_lose : Cond.code MX11_lose.1 MX11_lose.2.1 MX11_lose.2.2.1 MX11_lose.2.2.2.1 ∈ tbG := tbk5 190 rfl rfl
set_option maxRecDepth 20000 in
theorem wnX11_lose : Cond.instanceMethod yX11_lose ∈ tbG := tbk5 188 rfl rfl
set_option maxRecDepth 20000 in
theorem weX11_lose : Cond.selects RX11 yX11_lose yX11_lose ∈ tbG := tbk5 189 rfl rfl
set_option maxRecDepth 20000 in
theorem wcX11_lacks : Cond.code MX11_lacks.1 MX11_lacks.2.1 MX11_lacks.2.2.1 MX11_lacks.2.2.2.1 ∈ tbG := tbk5 198 rfl rfl
set_option maxRecDepth 20000 in
theorem wnX11_lacks : Cond.instanceMethod yX11_lacks ∈ tbG := tbk5 197 rfl rfl
theorem weX11_lacks : Cond.selects RX11 yX11_lacks yX11_lacks ∈ tbG := tb_ps 46 (by decide +kernel) rfl
set_option maxRecDepth 20000 in
theorem wcX11_cut : Cond.code MX11_cut.1 MX11_cut.2.1 MX11_cut.2.2.1 MX11_cut.2.2.2.1 ∈ tbG := tbk5 201 rfl rfl
set_option maxRecDepth 20000 in
theorem wsX11_cut : Cond.static yX11_cut ∈ tbG := tbk5 200 rfl rfl
set_option maxRecDepth 20000 in
theorem wcX11_lay : Cond.code MX11_lay.1 MX11_lay.2.1 MX11_lay.2.2.1 MX11_lay.2.2.2.1 ∈ tbG := tbk5 194 rfl rfl
set_option maxRecDepth 20000 in
theorem wnX11_lay : Cond.instanceMethod yX11_lay ∈ tbG := tbk5 192 rfl rfl
set_option maxRecDepth 20000 in
theorem weX11_lay : Cond.selects RX11 yX11_lay yX11_lay ∈ tbG := tbk5 193 rfl rfl
set_option maxRecDepth 20000 in
theorem wcX11_get : Cond.code MX11_get.1 MX11_get.2.1 MX11_get.2.2.1 MX11_get.2.2.2.1 ∈ tbG := tbk5 205 rfl rfl
set_option maxRecDepth 20000 in
theorem wnX11_get : Cond.instanceMethod yX11_get ∈ tbG := tbk5 203 rfl rfl
set_option maxRecDepth 20000 in
theorem weX11_get : Cond.selects RX11 yX11_get yX11_get ∈ tbG := tbk5 204 rfl rfl
set_option maxRecDepth 20000 in
theorem wcX11_copy : Cond.code MX11_copy.1 MX11_copy.2.1 MX11_copy.2.2.1 MX11_copy.2.2.2.1 ∈ tbG := tbk5 210 rfl rfl
set_option maxRecDepth 20000 in
theorem wnX11_copy : Cond.instanceMethod yX11_copy ∈ tbG := tbk5 208 rfl rfl
set_option maxRecDepth 20000 in
theorem weX11_copy : Cond.selects RX11 yX11_copy yX11_copy ∈ tbG := tbk5 209 rfl rfl
set_option maxRecDepth 20000 in
theorem wcX11_isText : Cond.code MX11_isText.1 MX11_isText.2.1 MX11_isText.2.2.1 MX11_isText.2.2.2.1 ∈ tbG := tbk5 217 rfl rfl
set_option maxRecDepth 20000 in
theorem wsX11_isText : Cond.static yX11_isText ∈ tbG := tbk5 216 rfl rfl
set_option maxRecDepth 20000 in
theorem wcX11_isWay : Cond.code MX11_isWay.1 MX11_isWay.2.1 MX11_isWay.2.2.1 MX11_isWay.2.2.2.1 ∈ tbG := tbk6 48 rfl rfl
set_option maxRecDepth 20000 in
theorem wsX11_isWay : Cond.static yX11_isWay ∈ tbG := tbk6 47 rfl rfl
set_option maxRecDepth 20000 in
theorem wcX11_from : Cond.code MX11_from.1 MX11_from.2.1 MX11_from.2.2.1 MX11_from.2.2.2.1 ∈ tbG := tbk5 221 rfl rfl
set_option maxRecDepth 20000 in
theorem wsX11_from : Cond.static yX11_from ∈ tbG := tbk5 220 rfl rfl
set_option maxRecDepth 20000 in
theorem wcX11_type : Cond.code MX11_type.1 MX11_type.2.1 MX11_type.2.2.1 MX11_type.2.2.2.1 ∈ tbG := tbk5 214 rfl rfl
set_option maxRecDepth 20000 in
theorem wnX11_type : Cond.instanceMethod yX11_type ∈ tbG := tbk5 212 rfl rfl
set_option maxRecDepth 20000 in
theorem weX11_type : Cond.selects RX11 yX11_type yX11_type ∈ tbG := tbk5 213 rfl rfl
set_option maxRecDepth 20000 in
theorem wcX11_wipe : Cond.code MX11_wipe.1 MX11_wipe.2.1 MX11_wipe.2.2.1 MX11_wipe.2.2.2.1 ∈ tbG := tbk5 225 rfl rfl
set_option maxRecDepth 20000 in
theorem wnX11_wipe : Cond.instanceMethod yX11_wipe ∈ tbG := tbk5 223 rfl rfl
set_option maxRecDepth 20000 in
theorem weX11_wipe : Cond.selects RX11 yX11_wipe yX11_wipe ∈ tbG := tbk5 224 rfl rfl
set_option maxRecDepth 20000 in
theorem wcX11_here : Cond.code MX11_here.1 MX11_here.2.1 MX11_here.2.2.1 MX11_here.2.2.2.1 ∈ tbG := tbk6 9 rfl rfl
set_option maxRecDepth 20000 in
theorem wnX11_here : Cond.instanceMethod yX11_here ∈ tbG := tbk6 8 rfl rfl
theorem weX11_here : Cond.selects RX11 yX11_here yX11_here ∈ tbG := tb_ps 51 (by decide +kernel) rfl
set_option maxRecDepth 20000 in
theorem wcX11_clears : Cond.code MX11_clears.1 MX11_clears.2.1 MX11_clears.2.2.1 MX11_clears.2.2.2.1 ∈ tbG := tbk6 1 rfl rfl
set_option maxRecDepth 20000 in
theorem wnX11_clears : Cond.instanceMethod yX11_clears ∈ tbG := tbk6 0 rfl rfl
theorem weX11_clears : Cond.selects RX11 yX11_clears yX11_clears ∈ tbG := tb_ps 49 (by decide +kernel) rfl
set_option maxRecDepth 20000 in
theorem wcX11_readsRoom : Cond.code MX11_readsRoom.1 MX11_readsRoom.2.1 MX11_readsRoom.2.2.1 MX11_readsRoom.2.2.2.1 ∈ tbG := tbk6 13 rfl rfl
set_option maxRecDepth 20000 in
theorem wnX11_readsRoom : Cond.instanceMethod yX11_readsRoom ∈ tbG := tbk6 12 rfl rfl
theorem weX11_readsRoom : Cond.selects RX11 yX11_readsRoom yX11_readsRoom ∈ tbG := tb_ps 52 (by decide +kernel) rfl
set_option maxRecDepth 20000 in
theorem wcX11_readsPart : Cond.code MX11_readsPart.1 MX11_readsPart.2.1 MX11_readsPart.2.2.1 MX11_readsPart.2.2.2.1 ∈ tbG := tbk6 5 rfl rfl
set_option maxRecDepth 20000 in
theorem wnX11_readsPart : Cond.instanceMethod yX11_readsPart ∈ tbG := tbk6 4 rfl rfl
theorem weX11_readsPart : Cond.selects RX11 yX11_readsPart yX11_readsPart ∈ tbG := tb_ps 50 (by decide +kernel) rfl
set_option maxRecDepth 20000 in
theorem wcX11_readsLand : Cond.code MX11_readsLand.1 MX11_readsLand.2.1 MX11_readsLand.2.2.1 MX11_readsLand.2.2.2.1 ∈ tbG := tbk5 237 rfl rfl
set_option maxRecDepth 20000 in
theorem wnX11_readsLand : Cond.instanceMethod yX11_readsLand ∈ tbG := tbk5 236 rfl rfl
theorem weX11_readsLand : Cond.selects RX11 yX11_readsLand yX11_readsLand ∈ tbG := tb_ps 48 (by decide +kernel) rfl
set_option maxRecDepth 20000 in
theorem wcX11_letterOf : Cond.code MX11_letterOf.1 MX11_letterOf.2.1 MX11_letterOf.2.2.1 MX11_letterOf.2.2.2.1 ∈ tbG := tbk6 24 rfl rfl
set_option maxRecDepth 20000 in
theorem wnX11_letterOf : Cond.instanceMethod yX11_letterOf ∈ tbG := tbk6 23 rfl rfl
theorem weX11_letterOf : Cond.selects RX11 yX11_letterOf yX11_letterOf ∈ tbG := tb_ps 53 (by decide +kernel) rfl
set_option maxRecDepth 20000 in
theorem wcX11_byteOf : Cond.code MX11_byteOf.1 MX11_byteOf.2.1 MX11_byteOf.2.2.1 MX11_byteOf.2.2.2.1 ∈ tbG := tbk6 70 rfl rfl
set_option maxRecDepth 20000 in
theorem wsX11_byteOf : Cond.static yX11_byteOf ∈ tbG := tbk6 69 rfl rfl
set_option maxRecDepth 20000 in
theorem wcX11_faultOf : Cond.code MX11_faultOf.1 MX11_faultOf.2.1 MX11_faultOf.2.2.1 MX11_faultOf.2.2.2.1 ∈ tbG := tbk5 233 rfl rfl
set_option maxRecDepth 20000 in
theorem wnX11_faultOf : Cond.instanceMethod yX11_faultOf ∈ tbG := tbk5 232 rfl rfl
theorem weX11_faultOf : Cond.selects RX11 yX11_faultOf yX11_faultOf ∈ tbG := tb_ps 47 (by decide +kernel) rfl
set_option maxRecDepth 20000 in
theorem wcX11_fault : Cond.code MX11_fault.1 MX11_fault.2.1 MX11_fault.2.2.1 MX11_fault.2.2.2.1 ∈ tbG := tbk5 229 rfl rfl
set_option maxRecDepth 20000 in
theorem wnX11_fault : Cond.instanceMethod yX11_fault ∈ tbG := tbk5 227 rfl rfl
set_option maxRecDepth 20000 in
theorem weX11_fault : Cond.selects RX11 yX11_fault yX11_fault ∈ tbG := tbk5 228 rfl rfl
set_option maxRecDepth 20000 in
theorem wcX11_start : Cond.code MX11_start.1 MX11_start.2.1 MX11_start.2.2.1 MX11_start.2.2.2.1 ∈ tbG := tbk6 87 rfl rfl
set_option maxRecDepth 20000 in
theorem wnX11_start : Cond.instanceMethod yX11_start ∈ tbG := tbk6 86 rfl rfl
theorem weX11_start : Cond.selects RX11 yX11_start yX11_start ∈ tbG := tb_ps 61 (by decide +kernel) rfl
set_option maxRecDepth 20000 in
theorem wcX11_end : Cond.code MX11_end.1 MX11_end.2.1 MX11_end.2.2.1 MX11_end.2.2.2.1 ∈ tbG := tbk6 91 rfl rfl
set_option maxRecDepth 20000 in
theorem wnX11_end : Cond.instanceMethod yX11_end ∈ tbG := tbk6 90 rfl rfl
theorem weX11_end : Cond.selects RX11 yX11_end yX11_end ∈ tbG := tb_ps 62 (by decide +kernel) rfl
set_option maxRecDepth 20000 in
theorem wcX11_back : Cond.code MX11_back.1 MX11_back.2.1 MX11_back.2.2.1 MX11_back.2.2.2.1 ∈ tbG := tbk6 67 rfl rfl
set_option maxRecDepth 20000 in
theorem wsX11_back : Cond.static yX11_back ∈ tbG := tbk6 66 rfl rfl
set_option maxRecDepth 20000 in
theorem wcX11_isShut : Cond.code MX11_isShut.1 MX11_isShut.2.1 MX11_isShut.2.2.1 MX11_isShut.2.2.2.1 ∈ tbG := tbk6 32 rfl rfl
set_option maxRecDepth 20000 in
theorem wnX11_isShut : Cond.instanceMethod yX11_isShut ∈ tbG := tbk6 31 rfl rfl
theorem weX11_isShut : Cond.selects RX11 yX11_isShut yX11_isShut ∈ tbG := tb_ps 54 (by decide +kernel) rfl
set_option maxRecDepth 20000 in
theorem wcX11_gate : Cond.code MX11_gate.1 MX11_gate.2.1 MX11_gate.2.2.1 MX11_gate.2.2.2.1 ∈ tbG := tbk6 28 rfl rfl
set_option maxRecDepth 20000 in
theorem wnX11_gate : Cond.instanceMethod yX11_gate ∈ tbG := tbk6 26 rfl rfl
set_option maxRecDepth 20000 in
theorem weX11_gate : Cond.selects RX11 yX11_gate yX11_gate ∈ tbG := tbk6 27 rfl rfl
set_option maxRecDepth 20000 in
theorem wcX11_room : Cond.code MX11_room.1 MX11_room.2.1 MX11_room.2.2.1 MX11_room.2.2.2.1 ∈ tbG := tbk6 36 rfl rfl
set_option maxRecDepth 20000 in
theorem wnX11_room : Cond.instanceMethod yX11_room ∈ tbG := tbk6 34 rfl rfl
set_option maxRecDepth 20000 in
theorem weX11_room : Cond.selects RX11 yX11_room yX11_room ∈ tbG := tbk6 35 rfl rfl
set_option maxRecDepth 20000 in
theorem wcX11_shut : Cond.code MX11_shut.1 MX11_shut.2.1 MX11_shut.2.2.1 MX11_shut.2.2.2.1 ∈ tbG := tbk6 40 rfl rfl
set_option maxRecDepth 20000 in
theorem wnX11_shut : Cond.instanceMethod yX11_shut ∈ tbG := tbk6 38 rfl rfl
set_option maxRecDepth 20000 in
theorem weX11_shut : Cond.selects RX11 yX11_shut yX11_shut ∈ tbG := tbk6 39 rfl rfl
set_option maxRecDepth 20000 in
theorem wcX11_stamp : Cond.code MX11_stamp.1 MX11_stamp.2.1 MX11_stamp.2.2.1 MX11_stamp.2.2.2.1 ∈ tbG := tbk6 64 rfl rfl
set_option maxRecDepth 20000 in
theorem wnX11_stamp : Cond.instanceMethod yX11_stamp ∈ tbG := tbk6 63 rfl rfl
theorem weX11_stamp : Cond.selects RX11 yX11_stamp yX11_stamp ∈ tbG := tb_ps 58 (by decide +kernel) rfl
set_option maxRecDepth 20000 in
theorem wcX11_lengthOf : Cond.code MX11_lengthOf.1 MX11_lengthOf.2.1 MX11_lengthOf.2.2.1 MX11_lengthOf.2.2.2.1 ∈ tbG := tbk6 56 rfl rfl
set_option maxRecDepth 20000 in
theorem wnX11_lengthOf : Cond.instanceMethod yX11_lengthOf ∈ tbG := tbk6 55 rfl rfl
theorem weX11_lengthOf : Cond.selects RX11 yX11_lengthOf yX11_lengthOf ∈ tbG := tb_ps 56 (by decide +kernel) rfl
set_option maxRecDepth 20000 in
theorem wcX11_letterAt : Cond.code MX11_letterAt.1 MX11_letterAt.2.1 MX11_letterAt.2.2.1 MX11_letterAt.2.2.2.1 ∈ tbG := tbk6 60 rfl rfl
set_option maxRecDepth 20000 in
theorem wnX11_letterAt : Cond.instanceMethod yX11_letterAt ∈ tbG := tbk6 59 rfl rfl
theorem weX11_letterAt : Cond.selects RX11 yX11_letterAt yX11_letterAt ∈ tbG := tb_ps 57 (by decide +kernel) rfl
set_option maxRecDepth 20000 in
theorem wcX11_findPaper : Cond.code MX11_findPaper.1 MX11_findPaper.2.1 MX11_findPaper.2.2.1 MX11_findPaper.2.2.2.1 ∈ tbG := tbk6 52 rfl rfl
set_option maxRecDepth 20000 in
theorem wnX11_findPaper : Cond.instanceMethod yX11_findPaper ∈ tbG := tbk6 51 rfl rfl
theorem weX11_findPaper : Cond.selects RX11 yX11_findPaper yX11_findPaper ∈ tbG := tb_ps 55 (by decide +kernel) rfl
set_option maxRecDepth 20000 in
theorem wcX11_paper : Cond.code MX11_paper.1 MX11_paper.2.1 MX11_paper.2.2.1 MX11_paper.2.2.2.1 ∈ tbG := tbk6 45 rfl rfl
set_option maxRecDepth 20000 in
theorem wnX11_paper : Cond.instanceMethod yX11_paper ∈ tbG := tbk6 43 rfl rfl
set_option maxRecDepth 20000 in
theorem weX11_paper : Cond.selects RX11 yX11_paper yX11_paper ∈ tbG := tbk6 44 rfl rfl
set_option maxRecDepth 20000 in
theorem wcX11_isBegun : Cond.code MX11_isBegun.1 MX11_isBegun.2.1 MX11_isBegun.2.2.1 MX11_isBegun.2.2.2.1 ∈ tbG := tbk6 78 rfl rfl
set_option maxRecDepth 20000 in
theorem wnX11_isBegun : Cond.instanceMethod yX11_isBegun ∈ tbG := tbk6 77 rfl rfl
theorem weX11_isBegun : Cond.selects RX11 yX11_isBegun yX11_isBegun ∈ tbG := tb_ps 59 (by decide +kernel) rfl
set_option maxRecDepth 20000 in
theorem wcX11_judgedOf : Cond.code MX11_judgedOf.1 MX11_judgedOf.2.1 MX11_judgedOf.2.2.1 MX11_judgedOf.2.2.2.1 ∈ tbG := tbk6 83 rfl rfl
set_option maxRecDepth 20000 in
theorem wnX11_judgedOf : Cond.instanceMethod yX11_judgedOf ∈ tbG := tbk6 82 rfl rfl
theorem weX11_judgedOf : Cond.selects RX11 yX11_judgedOf yX11_judgedOf ∈ tbG := tb_ps 60 (by decide +kernel) rfl
set_option maxRecDepth 20000 in
theorem wcX11_judged : Cond.code MX11_judged.1 MX11_judged.2.1 MX11_judged.2.2.1 MX11_judged.2.2.2.1 ∈ tbG := tbk6 74 rfl rfl
set_option maxRecDepth 20000 in
theorem wnX11_judged : Cond.instanceMethod yX11_judged ∈ tbG := tbk6 72 rfl rfl
set_option maxRecDepth 20000 in
theorem weX11_judged : Cond.selects RX11 yX11_judged yX11_judged ∈ tbG := tbk6 73 rfl rfl
set_option maxRecDepth 20000 in
theorem wcX11_alike : Cond.code MX11_alike.1 MX11_alike.2.1 MX11_alike.2.2.1 MX11_alike.2.2.2.1 ∈ tbG := tbk6 103 rfl rfl
set_option maxRecDepth 20000 in
theorem wnX11_alike : Cond.instanceMethod yX11_alike ∈ tbG := tbk6 102 rfl rfl
theorem weX11_alike : Cond.selects RX11 yX11_alike yX11_alike ∈ tbG := tb_ps 64 (by decide +kernel) rfl
set_option maxRecDepth 20000 in
theorem wcX11_sameOf : Cond.code MX11_sameOf.1 MX11_sameOf.2.1 MX11_sameOf.2.2.1 MX11_sameOf.2.2.2.1 ∈ tbG := tbk6 99 rfl rfl
set_option maxRecDepth 20000 in
theorem wnX11_sameOf : Cond.instanceMethod yX11_sameOf ∈ tbG := tbk6 98 rfl rfl
theorem weX11_sameOf : Cond.selects RX11 yX11_sameOf yX11_sameOf ∈ tbG := tb_ps 63 (by decide +kernel) rfl
set_option maxRecDepth 20000 in
theorem wcX11_same : Cond.code MX11_same.1 MX11_same.2.1 MX11_same.2.2.1 MX11_same.2.2.2.1 ∈ tbG := tbk6 95 rfl rfl
set_option maxRecDepth 20000 in
theorem wnX11_same : Cond.instanceMethod yX11_same ∈ tbG := tbk6 93 rfl rfl
set_option maxRecDepth 20000 in
theorem weX11_same : Cond.selects RX11 yX11_same yX11_same ∈ tbG := tbk6 94 rfl rfl
set_option maxRecDepth 20000 in
theorem wcX11_isUnseen : Cond.code MX11_isUnseen.1 MX11_isUnseen.2.1 MX11_isUnseen.2.2.1 MX11_isUnseen.2.2.2.1 ∈ tbG := tbk6 130 rfl rfl
set_option maxRecDepth 20000 in
theorem wnX11_isUnseen : Cond.instanceMethod yX11_isUnseen ∈ tbG := tbk6 129 rfl rfl
theorem weX11_isUnseen : Cond.selects RX11 yX11_isUnseen yX11_isUnseen ∈ tbG := tb_ps 69 (by decide +kernel) rfl
set_option maxRecDepth 20000 in
theorem wcX11_findUnseen : Cond.code MX11_findUnseen.1 MX11_findUnseen.2.1 MX11_findUnseen.2.2.1 MX11_findUnseen.2.2.2.1 ∈ tbG := tbk6 126 rfl rfl
set_option maxRecDepth 20000 in
theorem wnX11_findUnseen : Cond.instanceMethod yX11_findUnseen ∈ tbG := tbk6 125 rfl rfl
theorem weX11_findUnseen : Cond.selects RX11 yX11_findUnseen yX11_findUnseen ∈ tbG := tb_ps 68 (by decide +kernel) rfl
set_option maxRecDepth 20000 in
theorem wcX11_findBetween : Cond.code MX11_findBetween.1 MX11_findBetween.2.1 MX11_findBetween.2.2.1 MX11_findBetween.2.2.2.1 ∈ tbG := tbk6 134 rfl rfl
set_option maxRecDepth 20000 in
theorem wnX11_findBetween : Cond.instanceMethod yX11_findBetween ∈ tbG := tbk6 133 rfl rfl
theorem weX11_findBetween : Cond.selects RX11 yX11_findBetween yX11_findBetween ∈ tbG := tb_ps 70 (by decide +kernel) rfl
set_option maxRecDepth 20000 in
theorem wcX11_goesOn : Cond.code MX11_goesOn.1 MX11_goesOn.2.1 MX11_goesOn.2.2.1 MX11_goesOn.2.2.2.1 ∈ tbG := tbk6 138 rfl rfl
set_option maxRecDepth 20000 in
theorem wnX11_goesOn : Cond.instanceMethod yX11_goesOn ∈ tbG := tbk6 137 rfl rfl
theorem weX11_goesOn : Cond.selects RX11 yX11_goesOn yX11_goesOn ∈ tbG := tb_ps 71 (by decide +kernel) rfl
set_option maxRecDepth 20000 in
theorem wcX11_findShortest : Cond.code MX11_findShortest.1 MX11_findShortest.2.1 MX11_findShortest.2.2.1 MX11_findShortest.2.2.2.1 ∈ tbG := tbk6 122 rfl rfl
set_option maxRecDepth 20000 in
theorem wnX11_findShortest : Cond.instanceMethod yX11_findShortest ∈ tbG := tbk6 121 rfl rfl
theorem weX11_findShortest : Cond.selects RX11 yX11_findShortest yX11_findShortest ∈ tbG := tb_ps 67 (by decide +kernel) rfl
set_option maxRecDepth 20000 in
theorem wcX11_shortestOf : Cond.code MX11_shortestOf.1 MX11_shortestOf.2.1 MX11_shortestOf.2.2.1 MX11_shortestOf.2.2.2.1 ∈ tbG := tbk6 118 rfl rfl
set_option maxRecDepth 20000 in
theorem wnX11_shortestOf : Cond.instanceMethod yX11_shortestOf ∈ tbG := tbk6 117 rfl rfl
theorem weX11_shortestOf : Cond.selects RX11 yX11_shortestOf yX11_shortestOf ∈ tbG := tb_ps 66 (by decide +kernel) rfl
set_option maxRecDepth 20000 in
theorem wcX11_isAsked : Cond.code MX11_isAsked.1 MX11_isAsked.2.1 MX11_isAsked.2.2.1 MX11_isAsked.2.2.2.1 ∈ tbG := tbk6 111 rfl rfl
set_option maxRecDepth 20000 in
theorem wnX11_isAsked : Cond.instanceMethod yX11_isAsked ∈ tbG := tbk6 110 rfl rfl
theorem weX11_isAsked : Cond.selects RX11 yX11_isAsked yX11_isAsked ∈ tbG := tb_ps 65 (by decide +kernel) rfl
set_option maxRecDepth 20000 in
theorem wcX11_shortest : Cond.code MX11_shortest.1 MX11_shortest.2.1 MX11_shortest.2.2.1 MX11_shortest.2.2.2.1 ∈ tbG := tbk6 107 rfl rfl
set_option maxRecDepth 20000 in
theorem wnX11_shortest : Cond.instanceMethod yX11_shortest ∈ tbG := tbk6 105 rfl rfl
set_option maxRecDepth 20000 in
theorem weX11_shortest : Cond.selects RX11 yX11_shortest yX11_shortest ∈ tbG := tbk6 106 rfl rfl
set_option maxRecDepth 20000 in
theorem wcX11_leastUnseen : Cond.code MX11_leastUnseen.1 MX11_leastUnseen.2.1 MX11_leastUnseen.2.2.1 MX11_leastUnseen.2.2.2.1 ∈ tbG := tbk6 151 rfl rfl
set_option maxRecDepth 20000 in
theorem wnX11_leastUnseen : Cond.instanceMethod yX11_leastUnseen ∈ tbG := tbk6 150 rfl rfl
theorem weX11_leastUnseen : Cond.selects RX11 yX11_leastUnseen yX11_leastUnseen ∈ tbG := tb_ps 72 (by decide +kernel) rfl
set_option maxRecDepth 20000 in
theorem wcX11_letter : Cond.code MX11_letter.1 MX11_letter.2.1 MX11_letter.2.2.1 MX11_letter.2.2.2.1 ∈ tbG := tbk6 147 rfl rfl
set_option maxRecDepth 20000 in
theorem wnX11_letter : Cond.instanceMethod yX11_letter ∈ tbG := tbk6 145 rfl rfl
set_option maxRecDepth 20000 in
theorem weX11_letter : Cond.selects RX11 yX11_letter yX11_letter ∈ tbG := tbk6 146 rfl rfl
set_option maxRecDepth 20000 in
theorem wcX11_findErrands : Cond.code MX11_findErrands.1 MX11_findErrands.2.1 MX11_findErrands.2.2.1 MX11_findErrands.2.2.2.1 ∈ tbG := tbk6 163 rfl rfl
set_option maxRecDepth 20000 in
theorem wnX11_findErrands : Cond.instanceMethod yX11_findErrands ∈ tbG := tbk6 162 rfl rfl
theorem weX11_findErrands : Cond.selects RX11 yX11_findErrands yX11_findErrands ∈ tbG := tb_ps 74 (by decide +kernel) rfl
set_option maxRecDepth 20000 in
theorem wcX11_stampsTo : Cond.code MX11_stampsTo.1 MX11_stampsTo.2.1 MX11_stampsTo.2.2.1 MX11_stampsTo.2.2.2.1 ∈ tbG := tbk6 167 rfl rfl
set_option maxRecDepth 20000 in
theorem wnX11_stampsTo : Cond.instanceMethod yX11_stampsTo ∈ tbG := tbk6 166 rfl rfl
theorem weX11_stampsTo : Cond.selects RX11 yX11_stampsTo yX11_stampsTo ∈ tbG := tb_ps 75 (by decide +kernel) rfl
set_option maxRecDepth 20000 in
theorem wcX11_errandsOf : Cond.code MX11_errandsOf.1 MX11_errandsOf.2.1 MX11_errandsOf.2.2.1 MX11_errandsOf.2.2.2.1 ∈ tbG := tbk6 159 rfl rfl
set_option maxRecDepth 20000 in
theorem wnX11_errandsOf : Cond.instanceMethod yX11_errandsOf ∈ tbG := tbk6 158 rfl rfl
theorem weX11_errandsOf : Cond.selects RX11 yX11_errandsOf yX11_errandsOf ∈ tbG := tb_ps 73 (by decide +kernel) rfl
set_option maxRecDepth 20000 in
theorem wcX11_errands : Cond.code MX11_errands.1 MX11_errands.2.1 MX11_errands.2.2.1 MX11_errands.2.2.2.1 ∈ tbG := tbk6 155 rfl rfl
set_option maxRecDepth 20000 in
theorem wnX11_errands : Cond.instanceMethod yX11_errands ∈ tbG := tbk6 153 rfl rfl
set_option maxRecDepth 20000 in
theorem weX11_errands : Cond.selects RX11 yX11_errands yX11_errands ∈ tbG := tbk6 154 rfl rfl
set_option maxRecDepth 20000 in
theorem wcX11_cleanOf : Cond.code MX11_cleanOf.1 MX11_cleanOf.2.1 MX11_cleanOf.2.2.1 MX11_cleanOf.2.2.2.1 ∈ tbG := tbk6 175 rfl rfl
set_option maxRecDepth 20000 in
theorem wnX11_cleanOf : Cond.instanceMethod yX11_cleanOf ∈ tbG := tbk6 174 rfl rfl
theorem weX11_cleanOf : Cond.selects RX11 yX11_cleanOf yX11_cleanOf ∈ tbG := tb_ps 76 (by decide +kernel) rfl
set_option maxRecDepth 20000 in
theorem wcX11_clean : Cond.code MX11_clean.1 MX11_clean.2.1 MX11_clean.2.2.1 MX11_clean.2.2.2.1 ∈ tbG := tbk6 171 rfl rfl
set_option maxRecDepth 20000 in
theorem wnX11_clean : Cond.instanceMethod yX11_clean ∈ tbG := tbk6 169 rfl rfl
set_option maxRecDepth 20000 in
theorem weX11_clean : Cond.selects RX11 yX11_clean yX11_clean ∈ tbG := tbk6 170 rfl rfl
set_option maxRecDepth 20000 in
theorem wcX11_foundOf : Cond.code MX11_foundOf.1 MX11_foundOf.2.1 MX11_foundOf.2.2.1 MX11_foundOf.2.2.2.1 ∈ tbG := tbk6 183 rfl rfl
set_option maxRecDepth 20000 in
theorem wnX11_foundOf : Cond.instanceMethod yX11_foundOf ∈ tbG := tbk6 182 rfl rfl
theorem weX11_foundOf : Cond.selects RX11 yX11_foundOf yX11_foundOf ∈ tbG := tb_ps 77 (by decide +kernel) rfl
set_option maxRecDepth 20000 in
theorem wcX11_found : Cond.code MX11_found.1 MX11_found.2.1 MX11_found.2.2.1 MX11_found.2.2.2.1 ∈ tbG := tbk6 179 rfl rfl
set_option maxRecDepth 20000 in
theorem wnX11_found : Cond.instanceMethod yX11_found ∈ tbG := tbk6 177 rfl rfl
set_option maxRecDepth 20000 in
theorem weX11_found : Cond.selects RX11 yX11_found yX11_found ∈ tbG := tbk6 178 rfl rfl
set_option maxRecDepth 20000 in
theorem wcX11_index : Cond.code MX11_index.1 MX11_index.2.1 MX11_index.2.2.1 MX11_index.2.2.2.1 ∈ tbG := tbk6 203 rfl rfl
set_option maxRecDepth 20000 in
theorem wsX11_index : Cond.static yX11_index ∈ tbG := tbk6 202 rfl rfl
set_option maxRecDepth 20000 in
theorem wcX11_closedBy : Cond.code MX11_closedBy.1 MX11_closedBy.2.1 MX11_closedBy.2.2.1 MX11_closedBy.2.2.2.1 ∈ tbG := tbk6 200 rfl rfl
set_option maxRecDepth 20000 in
theorem wnX11_closedBy : Cond.instanceMethod yX11_closedBy ∈ tbG := tbk6 199 rfl rfl
theorem weX11_closedBy : Cond.selects RX11 yX11_closedBy yX11_closedBy ∈ tbG := tb_ps 80 (by decide +kernel) rfl
set_option maxRecDepth 20000 in
theorem wcX11_findClosed : Cond.code MX11_findClosed.1 MX11_findClosed.2.1 MX11_findClosed.2.2.1 MX11_findClosed.2.2.2.1 ∈ tbG := tbk6 196 rfl rfl
set_option maxRecDepth 20000 in
theorem wnX11_findClosed : Cond.instanceMethod yX11_findClosed ∈ tbG := tbk6 195 rfl rfl
theorem weX11_findClosed : Cond.selects RX11 yX11_findClosed yX11_findClosed ∈ tbG := tb_ps 79 (by decide +kernel) rfl
set_option maxRecDepth 20000 in
theorem wcX11_follows : Cond.code MX11_follows.1 MX11_follows.2.1 MX11_follows.2.2.1 MX11_follows.2.2.2.1 ∈ tbG := tbk6 207 rfl rfl
set_option maxRecDepth 20000 in
theorem wnX11_follows : Cond.instanceMethod yX11_follows ∈ tbG := tbk6 206 rfl rfl
theorem weX11_follows : Cond.selects RX11 yX11_follows yX11_follows ∈ tbG := tb_ps 81 (by decide +kernel) rfl
set_option maxRecDepth 20000 in
theorem wcX11_manyOf : Cond.code MX11_manyOf.1 MX11_manyOf.2.1 MX11_manyOf.2.2.1 MX11_manyOf.2.2.2.1 ∈ tbG := tbk6 192 rfl rfl
set_option maxRecDepth 20000 in
theorem wnX11_manyOf : Cond.instanceMethod yX11_manyOf ∈ tbG := tbk6 191 rfl rfl
theorem weX11_manyOf : Cond.selects RX11 yX11_manyOf yX11_manyOf ∈ tbG := tb_ps 78 (by decide +kernel) rfl
set_option maxRecDepth 20000 in
theorem wcX11_many : Cond.code MX11_many.1 MX11_many.2.1 MX11_many.2.2.1 MX11_many.2.2.2.1 ∈ tbG := tbk6 187 rfl rfl
set_option maxRecDepth 20000 in
theorem wnX11_many : Cond.instanceMethod yX11_many ∈ tbG := tbk6 185 rfl rfl
set_option maxRecDepth 20000 in
theorem weX11_many : Cond.selects RX11 yX11_many yX11_many ∈ tbG := tbk6 186 rfl rfl
set_option maxRecDepth 20000 in
theorem wcX11_lists : Cond.code MX11_lists.1 MX11_lists.2.1 MX11_lists.2.2.1 MX11_lists.2.2.2.1 ∈ tbG := tbk6 215 rfl rfl
set_option maxRecDepth 20000 in
theorem wnX11_lists : Cond.instanceMethod yX11_lists ∈ tbG := tbk6 214 rfl rfl
theorem weX11_lists : Cond.selects RX11 yX11_lists yX11_lists ∈ tbG := tb_ps 82 (by decide +kernel) rfl
set_option maxRecDepth 20000 in
theorem wcX11_list : Cond.code MX11_list.1 MX11_list.2.1 MX11_list.2.2.1 MX11_list.2.2.2.1 ∈ tbG := tbk6 211 rfl rfl
set_option maxRecDepth 20000 in
theorem wnX11_list : Cond.instanceMethod yX11_list ∈ tbG := tbk6 209 rfl rfl
set_option maxRecDepth 20000 in
theorem weX11_list : Cond.selects RX11 yX11_list yX11_list ∈ tbG := tbk6 210 rfl rfl
set_option maxRecDepth 20000 in
theorem wcX11_read : Cond.code MX11_read.1 MX11_read.2.1 MX11_read.2.2.1 MX11_read.2.2.2.1 ∈ tbG := tbk6 219 rfl rfl
set_option maxRecDepth 20000 in
theorem wnX11_read : Cond.instanceMethod yX11_read ∈ tbG := tbk6 217 rfl rfl
set_option maxRecDepth 20000 in
theorem weX11_read : Cond.selects RX11 yX11_read yX11_read ∈ tbG := tbk6 218 rfl rfl
set_option maxRecDepth 20000 in
theorem wcX11_unlist : Cond.code MX11_unlist.1 MX11_unlist.2.1 MX11_unlist.2.2.1 MX11_unlist.2.2.2.1 ∈ tbG := tbk6 223 rfl rfl
set_option maxRecDepth 20000 in
theorem wnX11_unlist : Cond.instanceMethod yX11_unlist ∈ tbG := tbk6 221 rfl rfl
set_option maxRecDepth 20000 in
theorem weX11_unlist : Cond.selects RX11 yX11_unlist yX11_unlist ∈ tbG := tbk6 222 rfl rfl
set_option maxRecDepth 20000 in
theorem wcX11_listedAt : Cond.code MX11_listedAt.1 MX11_listedAt.2.1 MX11_listedAt.2.2.1 MX11_listedAt.2.2.2.1 ∈ tbG := tbk6 232 rfl rfl
set_option maxRecDepth 20000 in
theorem wnX11_listedAt : Cond.instanceMethod yX11_listedAt ∈ tbG := tbk6 231 rfl rfl
theorem weX11_listedAt : Cond.selects RX11 yX11_listedAt yX11_listedAt ∈ tbG := tb_ps 83 (by decide +kernel) rfl
set_option maxRecDepth 20000 in
theorem wcX11_listed : Cond.code MX11_listed.1 MX11_listed.2.1 MX11_listed.2.2.1 MX11_listed.2.2.2.1 ∈ tbG := tbk6 227 rfl rfl
set_option maxRecDepth 20000 in
theorem wnX11_listed : Cond.instanceMethod yX11_listed ∈ tbG := tbk6 225 rfl rfl
set_option maxRecDepth 20000 in
theorem weX11_listed : Cond.selects RX11 yX11_listed yX11_listed ∈ tbG := tbk6 226 rfl rfl
set_option maxRecDepth 20000 in
theorem wcX11_letsBy : Cond.code MX11_letsBy.1 MX11_letsBy.2.1 MX11_letsBy.2.2.1 MX11_letsBy.2.2.2.1 ∈ tbG := tbk7 4 rfl rfl
set_option maxRecDepth 20000 in
theorem wnX11_letsBy : Cond.instanceMethod yX11_letsBy ∈ tbG := tbk7 3 rfl rfl
theorem weX11_letsBy : Cond.selects RX11 yX11_letsBy yX11_letsBy ∈ tbG := tb_ps 84 (by decide +kernel) rfl
set_option maxRecDepth 20000 in
theorem wcX11_arePlaces : Cond.code MX11_arePlaces.1 MX11_arePlaces.2.1 MX11_arePlaces.2.2.1 MX11_arePlaces.2.2.2.1 ∈ tbG := tbk6 239 rfl rfl
set_option maxRecDepth 20000 in
theorem wsX11_arePlaces : Cond.static yX11_arePlaces ∈ tbG := tbk6 238 rfl rfl
set_option maxRecDepth 20000 in
theorem wcX11_lets : Cond.code MX11_lets.1 MX11_lets.2.1 MX11_lets.2.2.1 MX11_lets.2.2.2.1 ∈ tbG := tbk6 236 rfl rfl
set_option maxRecDepth 20000 in
theorem wnX11_lets : Cond.instanceMethod yX11_lets ∈ tbG := tbk6 234 rfl rfl
set_option maxRecDepth 20000 in
theorem weX11_lets : Cond.selects RX11 yX11_lets yX11_lets ∈ tbG := tbk6 235 rfl rfl
set_option maxRecDepth 20000 in
theorem wcX11_slipsOf : Cond.code MX11_slipsOf.1 MX11_slipsOf.2.1 MX11_slipsOf.2.2.1 MX11_slipsOf.2.2.2.1 ∈ tbG := tbk7 12 rfl rfl
set_option maxRecDepth 20000 in
theorem wnX11_slipsOf : Cond.instanceMethod yX11_slipsOf ∈ tbG := tbk7 11 rfl rfl
theorem weX11_slipsOf : Cond.selects RX11 yX11_slipsOf yX11_slipsOf ∈ tbG := tb_ps 85 (by decide +kernel) rfl
set_option maxRecDepth 20000 in
theorem wcX11_slips : Cond.code MX11_slips.1 MX11_slips.2.1 MX11_slips.2.2.1 MX11_slips.2.2.2.1 ∈ tbG := tbk7 8 rfl rfl
set_option maxRecDepth 20000 in
theorem wnX11_slips : Cond.instanceMethod yX11_slips ∈ tbG := tbk7 6 rfl rfl
set_option maxRecDepth 20000 in
theorem weX11_slips : Cond.selects RX11 yX11_slips yX11_slips ∈ tbG := tbk7 7 rfl rfl
set_option maxRecDepth 20000 in
theorem wcX11_ones : Cond.code MX11_ones.1 MX11_ones.2.1 MX11_ones.2.2.1 MX11_ones.2.2.2.1 ∈ tbG := tbk7 23 rfl rfl
set_option maxRecDepth 20000 in
theorem wsX11_ones : Cond.static yX11_ones ∈ tbG := tbk7 22 rfl rfl
set_option maxRecDepth 20000 in
theorem wcX11_fewestNow : Cond.code MX11_fewestNow.1 MX11_fewestNow.2.1 MX11_fewestNow.2.2.1 MX11_fewestNow.2.2.2.1 ∈ tbG := tbk7 20 rfl rfl
set_option maxRecDepth 20000 in
theorem wnX11_fewestNow : Cond.instanceMethod yX11_fewestNow ∈ tbG := tbk7 19 rfl rfl
theorem weX11_fewestNow : Cond.selects RX11 yX11_fewestNow yX11_fewestNow ∈ tbG := tb_ps 86 (by decide +kernel) rfl
set_option maxRecDepth 20000 in
theorem wcX11_fewest : Cond.code MX11_fewest.1 MX11_fewest.2.1 MX11_fewest.2.2.1 MX11_fewest.2.2.2.1 ∈ tbG := tbk7 16 rfl rfl
set_option maxRecDepth 20000 in
theorem wnX11_fewest : Cond.instanceMethod yX11_fewest ∈ tbG := tbk7 14 rfl rfl
set_option maxRecDepth 20000 in
theorem weX11_fewest : Cond.selects RX11 yX11_fewest yX11_fewest ∈ tbG := tbk7 15 rfl rfl
set_option maxRecDepth 20000 in
theorem wcX11_joins : Cond.code MX11_joins.1 MX11_joins.2.1 MX11_joins.2.2.1 MX11_joins.2.2.2.1 ∈ tbG := tbk7 39 rfl rfl
set_option maxRecDepth 20000 in
theorem wnX11_joins : Cond.instanceMethod yX11_joins ∈ tbG := tbk7 38 rfl rfl
theorem weX11_joins : Cond.selects RX11 yX11_joins yX11_joins ∈ tbG := tb_ps 89 (by decide +kernel) rfl
set_option maxRecDepth 20000 in
theorem wcX11_findFar : Cond.code MX11_findFar.1 MX11_findFar.2.1 MX11_findFar.2.2.1 MX11_findFar.2.2.2.1 ∈ tbG := tbk7 35 rfl rfl
set_option maxRecDepth 20000 in
theorem wnX11_findFar : Cond.instanceMethod yX11_findFar ∈ tbG := tbk7 34 rfl rfl
theorem weX11_findFar : Cond.selects RX11 yX11_findFar yX11_findFar ∈ tbG := tb_ps 88 (by decide +kernel) rfl
set_option maxRecDepth 20000 in
theorem wcX11_farOf : Cond.code MX11_farOf.1 MX11_farOf.2.1 MX11_farOf.2.2.1 MX11_farOf.2.2.2.1 ∈ tbG := tbk7 31 rfl rfl
set_option maxRecDepth 20000 in
theorem wnX11_farOf : Cond.instanceMethod yX11_farOf ∈ tbG := tbk7 30 rfl rfl
theorem weX11_farOf : Cond.selects RX11 yX11_farOf yX11_farOf ∈ tbG := tb_ps 87 (by decide +kernel) rfl
set_option maxRecDepth 20000 in
theorem wcX11_far : Cond.code MX11_far.1 MX11_far.2.1 MX11_far.2.2.1 MX11_far.2.2.2.1 ∈ tbG := tbk7 27 rfl rfl
set_option maxRecDepth 20000 in
theorem wnX11_far : Cond.instanceMethod yX11_far ∈ tbG := tbk7 25 rfl rfl
set_option maxRecDepth 20000 in
theorem weX11_far : Cond.selects RX11 yX11_far yX11_far ∈ tbG := tbk7 26 rfl rfl
set_option maxRecDepth 20000 in
theorem wcX11_changed : Cond.code MX11_changed.1 MX11_changed.2.1 MX11_changed.2.2.1 MX11_changed.2.2.2.1 ∈ tbG := tbk7 47 rfl rfl
set_option maxRecDepth 20000 in
theorem wnX11_changed : Cond.instanceMethod yX11_changed ∈ tbG := tbk7 46 rfl rfl
theorem weX11_changed : Cond.selects RX11 yX11_changed yX11_changed ∈ tbG := tb_ps 90 (by decide +kernel) rfl
set_option maxRecDepth 20000 in
theorem wcX11_without : Cond.code MX11_without.1 MX11_without.2.1 MX11_without.2.2.1 MX11_without.2.2.2.1 ∈ tbG := tbk7 43 rfl rfl
set_option maxRecDepth 20000 in
theorem wnX11_without : Cond.instanceMethod yX11_without ∈ tbG := tbk7 41 rfl rfl
set_option maxRecDepth 20000 in
theorem weX11_without : Cond.selects RX11 yX11_without yX11_without ∈ tbG := tbk7 42 rfl rfl
set_option maxRecDepth 20000 in
theorem wcX11_with : Cond.code MX11_with.1 MX11_with.2.1 MX11_with.2.2.1 MX11_with.2.2.2.1 ∈ tbG := tbk7 51 rfl rfl
set_option maxRecDepth 20000 in
theorem wnX11_with : Cond.instanceMethod yX11_with ∈ tbG := tbk7 49 rfl rfl
set_option maxRecDepth 20000 in
theorem weX11_with : Cond.selects RX11 yX11_with yX11_with ∈ tbG := tbk7 50 rfl rfl
set_option maxRecDepth 20000 in
theorem wcX11_write : Cond.code MX11_write.1 MX11_write.2.1 MX11_write.2.2.1 MX11_write.2.2.2.1 ∈ tbG := tbk7 55 rfl rfl
set_option maxRecDepth 20000 in
theorem wnX11_write : Cond.instanceMethod yX11_write ∈ tbG := tbk7 53 rfl rfl
set_option maxRecDepth 20000 in
theorem weX11_write : Cond.selects RX11 yX11_write yX11_write ∈ tbG := tbk7 54 rfl rfl
set_option maxRecDepth 20000 in
theorem wcX11_count : Cond.code MX11_count.1 MX11_count.2.1 MX11_count.2.2.1 MX11_count.2.2.2.1 ∈ tbG := tbk7 59 rfl rfl
set_option maxRecDepth 20000 in
theorem wnX11_count : Cond.instanceMethod yX11_count ∈ tbG := tbk7 57 rfl rfl
set_option maxRecDepth 20000 in
theorem weX11_count : Cond.selects RX11 yX11_count yX11_count ∈ tbG := tbk7 58 rfl rfl
set_option maxRecDepth 20000 in
theorem wcX11_digest : Cond.code MX11_digest.1 MX11_digest.2.1 MX11_digest.2.2.1 MX11_digest.2.2.2.1 ∈ tbG := tbk7 63 rfl rfl
set_option maxRecDepth 20000 in
theorem wnX11_digest : Cond.instanceMethod yX11_digest ∈ tbG := tbk7 61 rfl rfl
set_option maxRecDepth 20000 in
theorem weX11_digest : Cond.selects RX11 yX11_digest yX11_digest ∈ tbG := tbk7 62 rfl rfl
set_option maxRecDepth 20000 in
theorem wlRX10_89 : Cond.methodLink RX10 89 yX10_isText ∈ tbG := tbk2 56 rfl rfl
theorem okRX10_89 : okS RX10 89 MX10_isText := ⟨wcX10_isText, wlRX10_89, wsX10_isText, wi0, nh0.1, nh0.2⟩
set_option maxRecDepth 20000 in
theorem wlRX10_93 : Cond.methodLink RX10 93 yX8_isFull ∈ tbG := tbk2 59 rfl rfl
theorem okRX10_93 : okV RX10 93 MX8_isFull := okV.of wcX8_isFull wlRX10_93 wnX8_isFull weX8_isFull wi9 nh9.1 nh9.2
set_option maxRecDepth 20000 in
theorem wlRX10_97 : Cond.methodLink RX10 97 yX8_append ∈ tbG := tbk2 63 rfl rfl
theorem okRX10_97 : okV RX10 97 MX8_append := okV.of wcX8_append wlRX10_97 wnX8_append weX8_append wi9 nh9.1 nh9.2
set_option maxRecDepth 20000 in
theorem wlRX10_100 : Cond.methodLink RX10 100 yX10_learnIfLand ∈ tbG := tbk2 67 rfl rfl
theorem okRX10_100 : okV RX10 100 MX10_learnIfLand := okV.of wcX10_learnIfLand wlRX10_100 wnX10_learnIfLand weX10_learnIfLand wi0 nh0.1 nh0.2
set_option maxRecDepth 20000 in
theorem wlRX10_103 : Cond.methodLink RX10 103 yX8_size ∈ tbG := tbk2 105 rfl rfl
theorem okRX10_103 : okV RX10 103 MX8_size := okV.of wcX8_size wlRX10_103 wnX8_size weX8_size wi9 nh9.1 nh9.2
set_option maxRecDepth 20000 in
theorem wlRX10_107 : Cond.methodLink RX10 107 yX8_empty ∈ tbG := tbk2 110 rfl rfl
theorem okRX10_107 : okV RX10 107 MX8_empty := okV.of wcX8_empty wlRX10_107 wnX8_empty weX8_empty wi9 nh9.1 nh9.2
set_option maxRecDepth 20000 in
theorem wlRX10_110 : Cond.methodLink RX10 110 yX3_faultPlace ∈ tbG := tbk2 118 rfl rfl
theorem okRX10_110 : okV RX10 110 MX3_faultPlace := okV.of wcX3_faultPlace wlRX10_110 wnX3_faultPlace weX3_faultPlace wi4 nh4.1 nh4.2
set_option maxRecDepth 20000 in
theorem wlRX10_113 : Cond.methodLink RX10 113 yX10_wayFault ∈ tbG := tbk2 122 rfl rfl
theorem okRX10_113 : okV RX10 113 MX10_wayFault := okV.of wcX10_wayFault wlRX10_113 wnX10_wayFault weX10_wayFault wi0 nh0.1 nh0.2
set_option maxRecDepth 20000 in
theorem wlRX10_117 : Cond.methodLink RX10 117 yX3_hasGate ∈ tbG := tbk2 135 rfl rfl
theorem okRX10_117 : okV RX10 117 MX3_hasGate := okV.of wcX3_hasGate wlRX10_117 wnX3_hasGate weX3_hasGate wi4 nh4.1 nh4.2
set_option maxRecDepth 20000 in
theorem wlRX10_120 : Cond.methodLink RX10 120 yX3_from ∈ tbG := tbk2 139 rfl rfl
theorem okRX10_120 : okV RX10 120 MX3_from := okV.of wcX3_from wlRX10_120 wnX3_from weX3_from wi4 nh4.1 nh4.2
set_option maxRecDepth 20000 in
theorem wlRX10_124 : Cond.methodLink RX10 124 yX3_to ∈ tbG := tbk2 143 rfl rfl
theorem okRX10_124 : okV RX10 124 MX3_to := okV.of wcX3_to wlRX10_124 wnX3_to weX3_to wi4 nh4.1 nh4.2
set_option maxRecDepth 20000 in
theorem wlRX10_127 : Cond.methodLink RX10 127 yX3_isWatched ∈ tbG := tbk2 147 rfl rfl
theorem okRX10_127 : okV RX10 127 MX3_isWatched := okV.of wcX3_isWatched wlRX10_127 wnX3_isWatched weX3_isWatched wi4 nh4.1 nh4.2
set_option maxRecDepth 20000 in
theorem wlRX10_130 : Cond.methodLink RX10 130 yX3_isOpen ∈ tbG := tbk2 151 rfl rfl
theorem okRX10_130 : okV RX10 130 MX3_isOpen := okV.of wcX3_isOpen wlRX10_130 wnX3_isOpen weX3_isOpen wi4 nh4.1 nh4.2
set_option maxRecDepth 20000 in
theorem wlRX10_133 : Cond.methodLink RX10 133 yX3_roomTold ∈ tbG := tbk2 159 rfl rfl
theorem okRX10_133 : okV RX10 133 MX3_roomTold := okV.of wcX3_roomTold wlRX10_133 wnX3_roomTold weX3_roomTold wi4 nh4.1 nh4.2
set_option maxRecDepth 20000 in
theorem wlRX10_136 : Cond.methodLink RX10 136 yX3_close ∈ tbG := tbk2 167 rfl rfl
theorem okRX10_136 : okV RX10 136 MX3_close := okV.of wcX3_close wlRX10_136 wnX3_close weX3_close wi4 nh4.1 nh4.2
set_option maxRecDepth 20000 in
theorem wlRX10_139 : Cond.methodLink RX10 139 yX10_isWay ∈ tbG := tbk2 175 rfl rfl
theorem okRX10_139 : okS RX10 139 MX10_isWay := ⟨wcX10_isWay, wlRX10_139, wsX10_isWay, wi0, nh0.1, nh0.2⟩
set_option maxRecDepth 20000 in
theorem wlRX10_142 : Cond.methodLink RX10 142 yX10_stampWay ∈ tbG := tbk2 178 rfl rfl
theorem okRX10_142 : okV RX10 142 MX10_stampWay := okV.of wcX10_stampWay wlRX10_142 wnX10_stampWay weX10_stampWay wi0 nh0.1 nh0.2
set_option maxRecDepth 20000 in
theorem wlRX10_146 : Cond.methodLink RX10 146 yX5_size ∈ tbG := tbk2 194 rfl rfl
theorem okRX10_146 : okV RX10 146 MX5_size := okV.of wcX5_size wlRX10_146 wnX5_size weX5_size wi6 nh6.1 nh6.2
set_option maxRecDepth 20000 in
theorem wlRX10_147 : Cond.methodLink RX10 147 yX5_at ∈ tbG := tbk2 198 rfl rfl
theorem okRX10_147 : okV RX10 147 MX5_at := okV.of wcX5_at wlRX10_147 wnX5_at weX5_at wi6 nh6.1 nh6.2
set_option maxRecDepth 20000 in
theorem wlRX10_150 : Cond.methodLink RX10 150 yX10_byteOf ∈ tbG := tbk2 202 rfl rfl
theorem okRX10_150 : okS RX10 150 MX10_byteOf := ⟨wcX10_byteOf, wlRX10_150, wsX10_byteOf, wi0, nh0.1, nh0.2⟩
set_option maxRecDepth 20000 in
theorem wlRX10_153 : Cond.methodLink RX10 153 yX10_isTown ∈ tbG := tbk2 209 rfl rfl
theorem okRX10_153 : okS RX10 153 MX10_isTown := ⟨wcX10_isTown, wlRX10_153, wsX10_isTown, wi0, nh0.1, nh0.2⟩
set_option maxRecDepth 20000 in
theorem wlRX10_156 : Cond.methodLink RX10 156 yX10_isWayOrClean ∈ tbG := tbk2 212 rfl rfl
theorem okRX10_156 : okS RX10 156 MX10_isWayOrClean := ⟨wcX10_isWayOrClean, wlRX10_156, wsX10_isWayOrClean, wi0, nh0.1, nh0.2⟩
set_option maxRecDepth 20000 in
theorem wlRX10_159 : Cond.methodLink RX10 159 yX10_judgeWay ∈ tbG := tbk2 215 rfl rfl
theorem okRX10_159 : okV RX10 159 MX10_judgeWay := okV.of wcX10_judgeWay wlRX10_159 wnX10_judgeWay weX10_judgeWay wi0 nh0.1 nh0.2
set_option maxRecDepth 20000 in
theorem wlRX10_163 : Cond.methodLink RX10 163 yX2_verdict ∈ tbG := tbk3 13 rfl rfl
theorem okRX10_163 : okV RX10 163 MX2_verdict := okV.of wcX2_verdict wlRX10_163 wnX2_verdict weX2_verdict wi3 nh3.1 nh3.2
set_option maxRecDepth 20000 in
theorem wlRX10_166 : Cond.methodLink RX10 166 yX5_alike ∈ tbG := tbk3 21 rfl rfl
theorem okRX10_166 : okV RX10 166 MX5_alike := okV.of wcX5_alike wlRX10_166 wnX5_alike weX5_alike wi6 nh6.1 nh6.2
set_option maxRecDepth 20000 in
theorem wlRX10_170 : Cond.methodLink RX10 170 yX10_areEnds ∈ tbG := tbk3 32 rfl rfl
theorem okRX10_170 : okS RX10 170 MX10_areEnds := ⟨wcX10_areEnds, wlRX10_170, wsX10_areEnds, wi0, nh0.1, nh0.2⟩
set_option maxRecDepth 20000 in
theorem wlRX10_174 : Cond.methodLink RX10 174 yX10_longRefusal ∈ tbG := tbk3 35 rfl rfl
theorem okRX10_174 : okS RX10 174 MX10_longRefusal := ⟨wcX10_longRefusal, wlRX10_174, wsX10_longRefusal, wi0, nh0.1, nh0.2⟩
set_option maxRecDepth 20000 in
theorem wlRX10_178 : Cond.methodLink RX10 178 yX10_planRoute ∈ tbG := tbk3 39 rfl rfl
theorem okRX10_178 : okV RX10 178 MX10_planRoute := okV.of wcX10_planRoute wlRX10_178 wnX10_planRoute weX10_planRoute wi0 nh0.1 nh0.2
set_option maxRecDepth 20000 in
theorem wlRX10_182 : Cond.methodLink RX10 182 yX6_ways ∈ tbG := tbk3 106 rfl rfl
theorem okRX10_182 : okV RX10 182 MX6_ways := okV.of wcX6_ways wlRX10_182 wnX6_ways weX6_ways wi7 nh7.1 nh7.2
set_option maxRecDepth 20000 in
theorem wlRX10_186 : Cond.methodLink RX10 186 yX6_leastLetter ∈ tbG := tbk3 138 rfl rfl
theorem okRX10_186 : okV RX10 186 MX6_leastLetter := okV.of wcX6_leastLetter wlRX10_186 wnX6_leastLetter weX6_leastLetter wi7 nh7.1 nh7.2
set_option maxRecDepth 20000 in
theorem wlRX10_190 : Cond.methodLink RX10 190 yX1_fullest ∈ tbG := tbk3 154 rfl rfl
theorem okRX10_190 : okV RX10 190 MX1_fullest := okV.of wcX1_fullest wlRX10_190 wnX1_fullest weX1_fullest wi2 nh2.1 nh2.2
set_option maxRecDepth 20000 in
theorem wlRX10_194 : Cond.methodLink RX10 194 yX1_stepsTo ∈ tbG := tbk3 185 rfl rfl
theorem okRX10_194 : okV RX10 194 MX1_stepsTo := okV.of wcX1_stepsTo wlRX10_194 wnX1_stepsTo weX1_stepsTo wi2 nh2.1 nh2.2
set_option maxRecDepth 20000 in
theorem wlRX10_197 : Cond.methodLink RX10 197 yX1_homely ∈ tbG := tbk3 193 rfl rfl
theorem okRX10_197 : okV RX10 197 MX1_homely := okV.of wcX1_homely wlRX10_197 wnX1_homely weX1_homely wi2 nh2.1 nh2.2
set_option maxRecDepth 20000 in
theorem wlRX10_200 : Cond.methodLink RX10 200 yX5_empty ∈ tbG := tbk2 182 rfl rfl
theorem okRX10_200 : okV RX10 200 MX5_empty := okV.of wcX5_empty wlRX10_200 wnX5_empty weX5_empty wi6 nh6.1 nh6.2
set_option maxRecDepth 20000 in
theorem wlRX10_201 : Cond.methodLink RX10 201 yX6_plan ∈ tbG := tbk3 44 rfl rfl
theorem okRX10_201 : okV RX10 201 MX6_plan := okV.of wcX6_plan wlRX10_201 wnX6_plan weX6_plan wi7 nh7.1 nh7.2
set_option maxRecDepth 20000 in
theorem wlRX10_205 : Cond.methodLink RX10 205 yX6_starts ∈ tbG := tbk3 201 rfl rfl
theorem okRX10_205 : okV RX10 205 MX6_starts := okV.of wcX6_starts wlRX10_205 wnX6_starts weX6_starts wi7 nh7.1 nh7.2
set_option maxRecDepth 20000 in
theorem wlRX10_208 : Cond.methodLink RX10 208 yX6_ends ∈ tbG := tbk3 215 rfl rfl
theorem okRX10_208 : okV RX10 208 MX6_ends := okV.of wcX6_ends wlRX10_208 wnX6_ends weX6_ends wi7 nh7.1 nh7.2
set_option maxRecDepth 20000 in
theorem wlRX10_211 : Cond.methodLink RX10 211 yX9_number ∈ tbG := tbk3 223 rfl rfl
theorem okRX10_211 : okV RX10 211 MX9_number := okV.of wcX9_number wlRX10_211 wnX9_number weX9_number wi10 nh10.1 nh10.2
set_option maxRecDepth 20000 in
theorem wlRX10_215 : Cond.methodLink RX10 215 yX4_isFull ∈ tbG := tbk4 32 rfl rfl
theorem okRX10_215 : okV RX10 215 MX4_isFull := okV.of wcX4_isFull wlRX10_215 wnX4_isFull weX4_isFull wi5 nh5.1 nh5.2
set_option maxRecDepth 20000 in
theorem wlRX10_216 : Cond.methodLink RX10 216 yX4_append ∈ tbG := tbk4 36 rfl rfl
theorem okRX10_216 : okV RX10 216 MX4_append := okV.of wcX4_append wlRX10_216 wnX4_append weX4_append wi5 nh5.1 nh5.2
set_option maxRecDepth 20000 in
theorem wlRX10_219 : Cond.methodLink RX10 219 yX4_size ∈ tbG := tbk4 43 rfl rfl
theorem okRX10_219 : okV RX10 219 MX4_size := okV.of wcX4_size wlRX10_219 wnX4_size weX4_size wi5 nh5.1 nh5.2
set_option maxRecDepth 20000 in
theorem wlRX10_220 : Cond.methodLink RX10 220 yX10_isSheet ∈ tbG := tbk4 51 rfl rfl
theorem okRX10_220 : okS RX10 220 MX10_isSheet := ⟨wcX10_isSheet, wlRX10_220, wsX10_isSheet, wi0, nh0.1, nh0.2⟩
set_option maxRecDepth 20000 in
theorem wlRX10_223 : Cond.methodLink RX10 223 yX7_isLost ∈ tbG := tbk4 54 rfl rfl
theorem okRX10_223 : okV RX10 223 MX7_isLost := okV.of wcX7_isLost wlRX10_223 wnX7_isLost weX7_isLost wi8 nh8.1 nh8.2
set_option maxRecDepth 20000 in
theorem wlRX10_226 : Cond.methodLink RX10 226 yX7_find ∈ tbG := tbk4 58 rfl rfl
theorem okRX10_226 : okV RX10 226 MX7_find := okV.of wcX7_find wlRX10_226 wnX7_find weX7_find wi8 nh8.1 nh8.2
set_option maxRecDepth 20000 in
theorem wlRX10_229 : Cond.methodLink RX10 229 yX7_size ∈ tbG := tbk4 62 rfl rfl
theorem okRX10_229 : okV RX10 229 MX7_size := okV.of wcX7_size wlRX10_229 wnX7_size weX7_size wi8 nh8.1 nh8.2
set_option maxRecDepth 20000 in
theorem wlRX10_231 : Cond.methodLink RX10 231 yX7_item ∈ tbG := tbk4 66 rfl rfl
theorem okRX10_231 : okV RX10 231 MX7_item := okV.of wcX7_item wlRX10_231 wnX7_item weX7_item wi8 nh8.1 nh8.2
set_option maxRecDepth 20000 in
theorem wlRX10_234 : Cond.methodLink RX10 234 yX3_letterOf ∈ tbG := tbk2 127 rfl rfl
theorem okRX10_234 : okV RX10 234 MX3_letterOf := okV.of wcX3_letterOf wlRX10_234 wnX3_letterOf weX3_letterOf wi4 nh4.1 nh4.2
set_option maxRecDepth 20000 in
theorem wlRX10_237 : Cond.methodLink RX10 237 yX10_listIfRoom ∈ tbG := tbk4 70 rfl rfl
theorem okRX10_237 : okV RX10 237 MX10_listIfRoom := okV.of wcX10_listIfRoom wlRX10_237 wnX10_listIfRoom weX10_listIfRoom wi0 nh0.1 nh0.2
set_option maxRecDepth 20000 in
theorem wlRX10_241 : Cond.methodLink RX10 241 yX5_stamp ∈ tbG := tbk2 186 rfl rfl
theorem okRX10_241 : okV RX10 241 MX5_stamp := okV.of wcX5_stamp wlRX10_241 wnX5_stamp weX5_stamp wi6 nh6.1 nh6.2
set_option maxRecDepth 20000 in
theorem wlRX10_244 : Cond.methodLink RX10 244 yX4_dropLast ∈ tbG := tbk4 78 rfl rfl
theorem okRX10_244 : okV RX10 244 MX4_dropLast := okV.of wcX4_dropLast wlRX10_244 wnX4_dropLast weX4_dropLast wi5 nh5.1 nh5.2
set_option maxRecDepth 20000 in
theorem wlRX10_247 : Cond.methodLink RX10 247 yX4_stampsOf ∈ tbG := tbk4 87 rfl rfl
theorem okRX10_247 : okV RX10 247 MX4_stampsOf := okV.of wcX4_stampsOf wlRX10_247 wnX4_stampsOf weX4_stampsOf wi5 nh5.1 nh5.2
set_option maxRecDepth 20000 in
theorem wlRX10_250 : Cond.methodLink RX10 250 yX4_stampAt ∈ tbG := tbk4 91 rfl rfl
theorem okRX10_250 : okV RX10 250 MX4_stampAt := okV.of wcX4_stampAt wlRX10_250 wnX4_stampAt weX4_stampAt wi5 nh5.1 nh5.2
set_option maxRecDepth 20000 in
theorem wlRX10_253 : Cond.methodLink RX10 253 yX10_arePlaces ∈ tbG := tbk4 99 rfl rfl
theorem okRX10_253 : okS RX10 253 MX10_arePlaces := ⟨wcX10_arePlaces, wlRX10_253, wsX10_arePlaces, wi0, nh0.1, nh0.2⟩
set_option maxRecDepth 20000 in
theorem wlRX10_256 : Cond.methodLink RX10 256 yX4_letsBy ∈ tbG := tbk4 102 rfl rfl
theorem okRX10_256 : okV RX10 256 MX4_letsBy := okV.of wcX4_letsBy wlRX10_256 wnX4_letsBy weX4_letsBy wi5 nh5.1 nh5.2
set_option maxRecDepth 20000 in
theorem wlRX10_260 : Cond.methodLink RX10 260 yX4_slipping ∈ tbG := tbk4 115 rfl rfl
theorem okRX10_260 : okV RX10 260 MX4_slipping := okV.of wcX4_slipping wlRX10_260 wnX4_slipping weX4_slipping wi5 nh5.1 nh5.2
set_option maxRecDepth 20000 in
theorem wlRX10_263 : Cond.methodLink RX10 263 yX4_fewestPlaces ∈ tbG := tbk4 131 rfl rfl
theorem okRX10_263 : okV RX10 263 MX4_fewestPlaces := okV.of wcX4_fewestPlaces wlRX10_263 wnX4_fewestPlaces weX4_fewestPlaces wi5 nh5.1 nh5.2
set_option maxRecDepth 20000 in
theorem wlRX10_266 : Cond.methodLink RX10 266 yX3_openGates ∈ tbG := tbk4 153 rfl rfl
theorem okRX10_266 : okV RX10 266 MX3_openGates := okV.of wcX3_openGates wlRX10_266 wnX3_openGates weX3_openGates wi4 nh4.1 nh4.2
set_option maxRecDepth 20000 in
theorem wlRX10_269 : Cond.methodLink RX10 269 yX0_measureFrom ∈ tbG := tbk4 157 rfl rfl
theorem okRX10_269 : okV RX10 269 MX0_measureFrom := okV.of wcX0_measureFrom wlRX10_269 wnX0_measureFrom weX0_measureFrom wi1 nh1.1 nh1.2
set_option maxRecDepth 20000 in
theorem wlRX10_273 : Cond.methodLink RX10 273 yX0_between ∈ tbG := tbk4 161 rfl rfl
theorem okRX10_273 : okV RX10 273 MX0_between := okV.of wcX0_between wlRX10_273 wnX0_between weX0_between wi1 nh1.1 nh1.2
set_option maxRecDepth 20000 in
theorem wlRX10_276 : Cond.methodLink RX10 276 yX0_measure ∈ tbG := tbk4 166 rfl rfl
theorem okRX10_276 : okV RX10 276 MX0_measure := okV.of wcX0_measure wlRX10_276 wnX0_measure weX0_measure wi1 nh1.1 nh1.2
set_option maxRecDepth 20000 in
theorem wlRX10_280 : Cond.methodLink RX10 280 yX0_pairsUnlike ∈ tbG := tbk4 167 rfl rfl
theorem okRX10_280 : okV RX10 280 MX0_pairsUnlike := okV.of wcX0_pairsUnlike wlRX10_280 wnX0_pairsUnlike weX0_pairsUnlike wi1 nh1.1 nh1.2
set_option maxRecDepth 20000 in
theorem wlRX10_284 : Cond.methodLink RX10 284 yX0_mostUnlike ∈ tbG := tbk4 171 rfl rfl
theorem okRX10_284 : okV RX10 284 MX0_mostUnlike := okV.of wcX0_mostUnlike wlRX10_284 wnX0_mostUnlike weX0_mostUnlike wi1 nh1.1 nh1.2
set_option maxRecDepth 20000 in
theorem wlRX10_287 : Cond.methodLink RX10 287 yX0_measureLinked ∈ tbG := tbk4 183 rfl rfl
theorem okRX10_287 : okV RX10 287 MX0_measureLinked := okV.of wcX0_measureLinked wlRX10_287 wnX0_measureLinked weX0_measureLinked wi1 nh1.1 nh1.2
set_option maxRecDepth 20000 in
theorem wlRX10_291 : Cond.methodLink RX10 291 yX10_isForm ∈ tbG := tbk4 191 rfl rfl
theorem okRX10_291 : okS RX10 291 MX10_isForm := ⟨wcX10_isForm, wlRX10_291, wsX10_isForm, wi0, nh0.1, nh0.2⟩
set_option maxRecDepth 20000 in
theorem wlRX10_294 : Cond.methodLink RX10 294 yX7_make ∈ tbG := tbk4 194 rfl rfl
theorem okRX10_294 : okV RX10 294 MX7_make := okV.of wcX7_make wlRX10_294 wnX7_make weX7_make wi8 nh8.1 nh8.2
set_option maxRecDepth 20000 in
theorem wlRX10_297 : Cond.methodLink RX10 297 yX7_drop ∈ tbG := tbk4 202 rfl rfl
theorem okRX10_297 : okV RX10 297 MX7_drop := okV.of wcX7_drop wlRX10_297 wnX7_drop weX7_drop wi8 nh8.1 nh8.2
set_option maxRecDepth 20000 in
theorem wlRX10_300 : Cond.methodLink RX10 300 yX7_findingAt ∈ tbG := tbk4 210 rfl rfl
theorem okRX10_300 : okV RX10 300 MX7_findingAt := okV.of wcX7_findingAt wlRX10_300 wnX7_findingAt weX7_findingAt wi8 nh8.1 nh8.2
set_option maxRecDepth 20000 in
theorem wlRX10_303 : Cond.methodLink RX10 303 yX7_put ∈ tbG := tbk4 215 rfl rfl
theorem okRX10_303 : okV RX10 303 MX7_put := okV.of wcX7_put wlRX10_303 wnX7_put weX7_put wi8 nh8.1 nh8.2
set_option maxRecDepth 20000 in
theorem wlRX10_307 : Cond.methodLink RX10 307 yX7_findingOfCopy ∈ tbG := tbk4 228 rfl rfl
theorem okRX10_307 : okV RX10 307 MX7_findingOfCopy := okV.of wcX7_findingOfCopy wlRX10_307 wnX7_findingOfCopy weX7_findingOfCopy wi8 nh8.1 nh8.2
set_option maxRecDepth 20000 in
theorem wlRX10_311 : Cond.methodLink RX10 311 yX7_move ∈ tbG := tbk4 236 rfl rfl
theorem okRX10_311 : okV RX10 311 MX7_move := okV.of wcX7_move wlRX10_311 wnX7_move weX7_move wi8 nh8.1 nh8.2
set_option maxRecDepth 20000 in
theorem wlRX10_315 : Cond.methodLink RX10 315 yJ9_min_7cf53 ∈ tbG := tbk5 5 rfl rfl
theorem okRX10_315 : okS RX10 315 MJ9_min_7cf53 := ⟨wcJ9_min_7cf53, wlRX10_315, wsJ9_min_7cf53, wi14, nh14.1, nh14.2⟩
set_option maxRecDepth 20000 in
theorem wlRX10_320 : Cond.methodLink RX10 320 yX3_gatesTold ∈ tbG := tbk5 10 rfl rfl
theorem okRX10_320 : okV RX10 320 MX3_gatesTold := okV.of wcX3_gatesTold wlRX10_320 wnX3_gatesTold weX3_gatesTold wi4 nh4.1 nh4.2
set_option maxRecDepth 20000 in
theorem wlRX10_323 : Cond.methodLink RX10 323 yX3_gatesWatched ∈ tbG := tbk5 11 rfl rfl
theorem okRX10_323 : okV RX10 323 MX3_gatesWatched := okV.of wcX3_gatesWatched wlRX10_323 wnX3_gatesWatched weX3_gatesWatched wi4 nh4.1 nh4.2
set_option maxRecDepth 20000 in
theorem wlRX10_326 : Cond.methodLink RX10 326 yX4_goodOnes ∈ tbG := tbk5 16 rfl rfl
theorem okRX10_326 : okV RX10 326 MX4_goodOnes := okV.of wcX4_goodOnes wlRX10_326 wnX4_goodOnes weX4_goodOnes wi5 nh5.1 nh5.2
set_option maxRecDepth 20000 in
theorem wlRX10_329 : Cond.methodLink RX10 329 yX7_latestFinding ∈ tbG := tbk5 20 rfl rfl
theorem okRX10_329 : okV RX10 329 MX7_latestFinding := okV.of wcX7_latestFinding wlRX10_329 wnX7_latestFinding weX7_latestFinding wi8 nh8.1 nh8.2
set_option maxRecDepth 20000 in
theorem wlRX10_336 : Cond.methodLink RX10 336 yX10_count ∈ tbG := tbk5 30 rfl rfl
theorem okRX10_336 : okV RX10 336 MX10_count := okV.of wcX10_count wlRX10_336 wnX10_count weX10_count wi0 nh0.1 nh0.2
set_option maxRecDepth 20000 in
theorem wlRX10_339 : Cond.methodLink RX10 339 yX10_fault ∈ tbG := tbk5 31 rfl rfl
theorem okRX10_339 : okV RX10 339 MX10_fault := okV.of wcX10_fault wlRX10_339 wnX10_fault weX10_fault wi0 nh0.1 nh0.2
set_option maxRecDepth 20000 in
theorem wlRX10_342 : Cond.methodLink RX10 342 yX10_room ∈ tbG := tbk5 32 rfl rfl
theorem okRX10_342 : okV RX10 342 MX10_room := okV.of wcX10_room wlRX10_342 wnX10_room weX10_room wi0 nh0.1 nh0.2
set_option maxRecDepth 20000 in
theorem wlRX10_345 : Cond.methodLink RX10 345 yX10_digestGate ∈ tbG := tbk5 33 rfl rfl
theorem okRX10_345 : okV RX10 345 MX10_digestGate := okV.of wcX10_digestGate wlRX10_345 wnX10_digestGate weX10_digestGate wi0 nh0.1 nh0.2
set_option maxRecDepth 20000 in
theorem wlRX10_349 : Cond.methodLink RX10 349 yX10_digestWay ∈ tbG := tbk5 39 rfl rfl
theorem okRX10_349 : okV RX10 349 MX10_digestWay := okV.of wcX10_digestWay wlRX10_349 wnX10_digestWay weX10_digestWay wi0 nh0.1 nh0.2
set_option maxRecDepth 20000 in
theorem wlRX10_352 : Cond.methodLink RX10 352 yX10_same ∈ tbG := tbk5 48 rfl rfl
theorem okRX10_352 : okV RX10 352 MX10_same := okV.of wcX10_same wlRX10_352 wnX10_same weX10_same wi0 nh0.1 nh0.2
set_option maxRecDepth 20000 in
theorem wlRX10_355 : Cond.methodLink RX10 355 yX10_digestTown ∈ tbG := tbk5 49 rfl rfl
theorem okRX10_355 : okV RX10 355 MX10_digestTown := okV.of wcX10_digestTown wlRX10_355 wnX10_digestTown weX10_digestTown wi0 nh0.1 nh0.2
set_option maxRecDepth 20000 in
theorem wlRX10_358 : Cond.methodLink RX10 358 yX10_slips ∈ tbG := tbk5 56 rfl rfl
theorem okRX10_358 : okV RX10 358 MX10_slips := okV.of wcX10_slips wlRX10_358 wnX10_slips weX10_slips wi0 nh0.1 nh0.2
set_option maxRecDepth 20000 in
theorem wlRX10_361 : Cond.methodLink RX10 361 yX10_fewest ∈ tbG := tbk5 57 rfl rfl
theorem okRX10_361 : okV RX10 361 MX10_fewest := okV.of wcX10_fewest wlRX10_361 wnX10_fewest weX10_fewest wi0 nh0.1 nh0.2
set_option maxRecDepth 20000 in
theorem wlRX10_364 : Cond.methodLink RX10 364 yX10_gate ∈ tbG := tbk5 37 rfl rfl
theorem okRX10_364 : okV RX10 364 MX10_gate := okV.of wcX10_gate wlRX10_364 wnX10_gate weX10_gate wi0 nh0.1 nh0.2
set_option maxRecDepth 20000 in
theorem wlRX10_367 : Cond.methodLink RX10 367 yX10_without ∈ tbG := tbk5 38 rfl rfl
theorem okRX10_367 : okV RX10 367 MX10_without := okV.of wcX10_without wlRX10_367 wnX10_without weX10_without wi0 nh0.1 nh0.2
set_option maxRecDepth 20000 in
theorem wlRX10_370 : Cond.methodLink RX10 370 yX10_paper ∈ tbG := tbk5 43 rfl rfl
theorem okRX10_370 : okV RX10 370 MX10_paper := okV.of wcX10_paper wlRX10_370 wnX10_paper weX10_paper wi0 nh0.1 nh0.2
set_option maxRecDepth 20000 in
theorem wlRX10_373 : Cond.methodLink RX10 373 yX10_judged ∈ tbG := tbk5 44 rfl rfl
theorem okRX10_373 : okV RX10 373 MX10_judged := okV.of wcX10_judged wlRX10_373 wnX10_judged weX10_judged wi0 nh0.1 nh0.2
set_option maxRecDepth 20000 in
theorem wlRX10_376 : Cond.methodLink RX10 376 yX10_found ∈ tbG := tbk5 45 rfl rfl
theorem okRX10_376 : okV RX10 376 MX10_found := okV.of wcX10_found wlRX10_376 wnX10_found weX10_found wi0 nh0.1 nh0.2
set_option maxRecDepth 20000 in
theorem wlRX10_379 : Cond.methodLink RX10 379 yX10_shortest ∈ tbG := tbk5 46 rfl rfl
theorem okRX10_379 : okV RX10 379 MX10_shortest := okV.of wcX10_shortest wlRX10_379 wnX10_shortest weX10_shortest wi0 nh0.1 nh0.2
set_option maxRecDepth 20000 in
theorem wlRX10_383 : Cond.methodLink RX10 383 yX10_many ∈ tbG := tbk5 47 rfl rfl
theorem okRX10_383 : okV RX10 383 MX10_many := okV.of wcX10_many wlRX10_383 wnX10_many weX10_many wi0 nh0.1 nh0.2
set_option maxRecDepth 20000 in
theorem wlRX10_387 : Cond.methodLink RX10 387 yX10_clean ∈ tbG := tbk5 53 rfl rfl
theorem okRX10_387 : okV RX10 387 MX10_clean := okV.of wcX10_clean wlRX10_387 wnX10_clean weX10_clean wi0 nh0.1 nh0.2
set_option maxRecDepth 20000 in
theorem wlRX10_390 : Cond.methodLink RX10 390 yX10_far ∈ tbG := tbk5 54 rfl rfl
theorem okRX10_390 : okV RX10 390 MX10_far := okV.of wcX10_far wlRX10_390 wnX10_far weX10_far wi0 nh0.1 nh0.2
set_option maxRecDepth 20000 in
theorem wlRX10_393 : Cond.methodLink RX10 393 yX10_errands ∈ tbG := tbk5 55 rfl rfl
theorem okRX10_393 : okV RX10 393 MX10_errands := okV.of wcX10_errands wlRX10_393 wnX10_errands weX10_errands wi0 nh0.1 nh0.2
set_option maxRecDepth 20000 in
theorem wlRX10_397 : Cond.methodLink RX10 397 yX3_learn ∈ tbG := tbk2 71 rfl rfl
theorem okRX10_397 : okV RX10 397 MX3_learn := okV.of wcX3_learn wlRX10_397 wnX3_learn weX3_learn wi4 nh4.1 nh4.2
set_option maxRecDepth 20000 in
theorem wlRX10_401 : Cond.methodLink RX10 401 yX8_at ∈ tbG := tbk2 126 rfl rfl
theorem okRX10_401 : okV RX10 401 MX8_at := okV.of wcX8_at wlRX10_401 wnX8_at weX8_at wi9 nh9.1 nh9.2
set_option maxRecDepth 20000 in
theorem wlRX10_402 : Cond.methodLink RX10 402 yX2_onPaper ∈ tbG := tbk2 219 rfl rfl
theorem okRX10_402 : okV RX10 402 MX2_onPaper := okV.of wcX2_onPaper wlRX10_402 wnX2_onPaper weX2_onPaper wi3 nh3.1 nh3.2
set_option maxRecDepth 20000 in
theorem wlRX10_406 : Cond.methodLink RX10 406 yX2_begin ∈ tbG := tbk2 223 rfl rfl
theorem okRX10_406 : okV RX10 406 MX2_begin := okV.of wcX2_begin wlRX10_406 wnX2_begin weX2_begin wi3 nh3.1 nh3.2
set_option maxRecDepth 20000 in
theorem wlRX10_409 : Cond.methodLink RX10 409 yX2_follow ∈ tbG := tbk2 228 rfl rfl
theorem okRX10_409 : okV RX10 409 MX2_follow := okV.of wcX2_follow wlRX10_409 wnX2_follow weX2_follow wi3 nh3.1 nh3.2
set_option maxRecDepth 20000 in
theorem wlRX10_412 : Cond.methodLink RX10 412 yJ9_max_7cf53 ∈ tbG := tbk3 43 rfl rfl
theorem okRX10_412 : okS RX10 412 MJ9_max_7cf53 := ⟨wcJ9_max_7cf53, wlRX10_412, wsJ9_max_7cf53, wi14, nh14.1, nh14.2⟩
set_option maxRecDepth 20000 in
theorem wlRX10_415 : Cond.methodLink RX10 415 yX6_gatesBetween ∈ tbG := tbk3 82 rfl rfl
theorem okRX10_415 : okV RX10 415 MX6_gatesBetween := okV.of wcX6_gatesBetween wlRX10_415 wnX6_gatesBetween weX6_gatesBetween wi7 nh7.1 nh7.2
set_option maxRecDepth 20000 in
theorem wlRX0_23 : Cond.methodLink RX0 23 yX0_layOut ∈ tbG := tbk3 56 rfl rfl
theorem okRX0_23 : okV RX0 23 MX0_layOut := okV.of wcX0_layOut wlRX0_23 wnX0_layOut weX0_layOut wi1 nh1.1 nh1.2
set_option maxRecDepth 20000 in
theorem wlRX0_27 : Cond.methodLink RX0 27 yX0_spread ∈ tbG := tbk3 71 rfl rfl
theorem okRX0_27 : okV RX0 27 MX0_spread := okV.of wcX0_spread wlRX0_27 wnX0_spread weX0_spread wi1 nh1.1 nh1.2
set_option maxRecDepth 20000 in
theorem wlRX0_31 : Cond.methodLink RX0 31 yX0_link ∈ tbG := tbk3 67 rfl rfl
theorem okRX0_31 : okV RX0 31 MX0_link := okV.of wcX0_link wlRX0_31 wnX0_link weX0_link wi1 nh1.1 nh1.2
set_option maxRecDepth 20000 in
theorem wlRX0_39 : Cond.methodLink RX0 39 yX0_between ∈ tbG := tbk3 214 rfl rfl
theorem okRX0_39 : okV RX0 39 MX0_between := okV.of wcX0_between wlRX0_39 wnX0_between weX0_between wi1 nh1.1 nh1.2
set_option maxRecDepth 20000 in
theorem wlRX0_43 : Cond.methodLink RX0 43 yJ9_abs_0f7a4 ∈ tbG := tbk4 175 rfl rfl
theorem okRX0_43 : okS RX0 43 MJ9_abs_0f7a4 := ⟨wcJ9_abs_0f7a4, wlRX0_43, wsJ9_abs_0f7a4, wi14, nh14.1, nh14.2⟩
set_option maxRecDepth 20000 in
theorem wlRX0_49 : Cond.methodLink RX0 49 yJ9_max_7cf53 ∈ tbG := tbk4 178 rfl rfl
theorem okRX0_49 : okS RX0 49 MJ9_max_7cf53 := ⟨wcJ9_max_7cf53, wlRX0_49, wsJ9_max_7cf53, wi14, nh14.1, nh14.2⟩
set_option maxRecDepth 20000 in
theorem wlRX0_52 : Cond.methodLink RX0 52 yJ7_fill_53178 ∈ tbG := tbk3 60 rfl rfl
theorem okRX0_52 : okS RX0 52 MJ7_fill_53178 := ⟨wcJ7_fill_53178, wlRX0_52, wsJ7_fill_53178, wi16, nh16.1, nh16.2⟩
set_option maxRecDepth 20000 in
theorem wlRX0_58 : Cond.methodLink RX0 58 yX3_gatesTold ∈ tbG := tbk3 61 rfl rfl
theorem okRX0_58 : okV RX0 58 MX3_gatesTold := okV.of wcX3_gatesTold wlRX0_58 wnX3_gatesTold weX3_gatesTold wi4 nh4.1 nh4.2
set_option maxRecDepth 20000 in
theorem wlRX0_64 : Cond.methodLink RX0 64 yX3_from ∈ tbG := tbk3 65 rfl rfl
theorem okRX0_64 : okV RX0 64 MX3_from := okV.of wcX3_from wlRX0_64 wnX3_from weX3_from wi4 nh4.1 nh4.2
set_option maxRecDepth 20000 in
theorem wlRX0_67 : Cond.methodLink RX0 67 yX3_to ∈ tbG := tbk3 66 rfl rfl
theorem okRX0_67 : okV RX0 67 MX3_to := okV.of wcX3_to wlRX0_67 wnX3_to weX3_to wi4 nh4.1 nh4.2
set_option maxRecDepth 20000 in
theorem wlRX1_29 : Cond.methodLink RX1 29 yX1_setOut ∈ tbG := tbk3 158 rfl rfl
theorem okRX1_29 : okV RX1 29 MX1_setOut := okV.of wcX1_setOut wlRX1_29 wnX1_setOut weX1_setOut wi2 nh2.1 nh2.2
set_option maxRecDepth 20000 in
theorem wlRX1_33 : Cond.methodLink RX1 33 yX3_roomTold ∈ tbG := tbk3 165 rfl rfl
theorem okRX1_33 : okV RX1 33 MX3_roomTold := okV.of wcX3_roomTold wlRX1_33 wnX3_roomTold weX3_roomTold wi4 nh4.1 nh4.2
set_option maxRecDepth 20000 in
theorem wlRX1_39 : Cond.methodLink RX1 39 yX1_reached ∈ tbG := tbk3 166 rfl rfl
theorem okRX1_39 : okV RX1 39 MX1_reached := okV.of wcX1_reached wlRX1_39 wnX1_reached weX1_reached wi2 nh2.1 nh2.2
set_option maxRecDepth 20000 in
theorem wlRX1_42 : Cond.methodLink RX1 42 yX1_allowOneMore ∈ tbG := tbk3 170 rfl rfl
theorem okRX1_42 : okV RX1 42 MX1_allowOneMore := okV.of wcX1_allowOneMore wlRX1_42 wnX1_allowOneMore weX1_allowOneMore wi2 nh2.1 nh2.2
set_option maxRecDepth 20000 in
theorem wlRX1_46 : Cond.methodLink RX1 46 yX3_openLanes ∈ tbG := tbk3 162 rfl rfl
theorem okRX1_46 : okV RX1 46 MX3_openLanes := okV.of wcX3_openLanes wlRX1_46 wnX3_openLanes weX3_openLanes wi4 nh4.1 nh4.2
set_option maxRecDepth 20000 in
theorem wlRX1_49 : Cond.methodLink RX1 49 yX0_measure ∈ tbG := tbk3 163 rfl rfl
theorem okRX1_49 : okV RX1 49 MX0_measure := okV.of wcX0_measure wlRX1_49 wnX0_measure weX0_measure wi1 nh1.1 nh1.2
set_option maxRecDepth 20000 in
theorem wlRX1_53 : Cond.methodLink RX1 53 yX0_between ∈ tbG := tbk3 164 rfl rfl
theorem okRX1_53 : okV RX1 53 MX0_between := okV.of wcX0_between wlRX1_53 wnX0_between weX0_between wi1 nh1.1 nh1.2
set_option maxRecDepth 20000 in
theorem wlRX1_57 : Cond.methodLink RX1 57 arraycopyName ∈ tbG := tbk3 174 rfl rfl
set_option maxRecDepth 20000 in
theorem wlRX1_63 : Cond.methodLink RX1 63 yX3_letters ∈ tbG := tbk3 175 rfl rfl
theorem okRX1_63 : okV RX1 63 MX3_letters := okV.of wcX3_letters wlRX1_63 wnX3_letters weX3_letters wi4 nh4.1 nh4.2
set_option maxRecDepth 20000 in
theorem wlRX1_66 : Cond.methodLink RX1 66 yX3_isOpen ∈ tbG := tbk3 176 rfl rfl
theorem okRX1_66 : okV RX1 66 MX3_isOpen := okV.of wcX3_isOpen wlRX1_66 wnX3_isOpen weX3_isOpen wi4 nh4.1 nh4.2
set_option maxRecDepth 20000 in
theorem wlRX1_70 : Cond.methodLink RX1 70 yX3_isWatched ∈ tbG := tbk3 177 rfl rfl
theorem okRX1_70 : okV RX1 70 MX3_isWatched := okV.of wcX3_isWatched wlRX1_70 wnX3_isWatched weX3_isWatched wi4 nh4.1 nh4.2
set_option maxRecDepth 20000 in
theorem wlRX1_73 : Cond.methodLink RX1 73 yX3_to ∈ tbG := tbk3 178 rfl rfl
theorem okRX1_73 : okV RX1 73 MX3_to := okV.of wcX3_to wlRX1_73 wnX3_to weX3_to wi4 nh4.1 nh4.2
set_option maxRecDepth 20000 in
theorem wlRX1_77 : Cond.methodLink RX1 77 yX3_from ∈ tbG := tbk3 179 rfl rfl
theorem okRX1_77 : okV RX1 77 MX3_from := okV.of wcX3_from wlRX1_77 wnX3_from weX3_from wi4 nh4.1 nh4.2
set_option maxRecDepth 20000 in
theorem wlRX1_80 : Cond.methodLink RX1 80 yX1_comeNearer ∈ tbG := tbk3 180 rfl rfl
theorem okRX1_80 : okV RX1 80 MX1_comeNearer := okV.of wcX1_comeNearer wlRX1_80 wnX1_comeNearer weX1_comeNearer wi2 nh2.1 nh2.2
set_option maxRecDepth 20000 in
theorem wlRX1_84 : Cond.methodLink RX1 84 yJ9_min_7cf53 ∈ tbG := tbk3 184 rfl rfl
theorem okRX1_84 : okS RX1 84 MJ9_min_7cf53 := ⟨wcJ9_min_7cf53, wlRX1_84, wsJ9_min_7cf53, wi14, nh14.1, nh14.2⟩
set_option maxRecDepth 20000 in
theorem wlRX2_29 : Cond.methodLink RX2 29 yX5_size ∈ tbG := tbk2 227 rfl rfl
theorem okRX2_29 : okV RX2 29 MX5_size := okV.of wcX5_size wlRX2_29 wnX5_size weX5_size wi6 nh6.1 nh6.2
set_option maxRecDepth 20000 in
theorem wlRX2_39 : Cond.methodLink RX2 39 yX8_size ∈ tbG := tbk2 232 rfl rfl
theorem okRX2_39 : okV RX2 39 MX8_size := okV.of wcX8_size wlRX2_39 wnX8_size weX8_size wi9 nh9.1 nh9.2
set_option maxRecDepth 20000 in
theorem wlRX2_42 : Cond.methodLink RX2 42 yX8_at ∈ tbG := tbk2 233 rfl rfl
theorem okRX2_42 : okV RX2 42 MX8_at := okV.of wcX8_at wlRX2_42 wnX8_at weX8_at wi9 nh9.1 nh9.2
set_option maxRecDepth 20000 in
theorem wlRX2_46 : Cond.methodLink RX2 46 yX3_letterOf ∈ tbG := tbk2 234 rfl rfl
theorem okRX2_46 : okV RX2 46 MX3_letterOf := okV.of wcX3_letterOf wlRX2_46 wnX3_letterOf weX3_letterOf wi4 nh4.1 nh4.2
set_option maxRecDepth 20000 in
theorem wlRX2_51 : Cond.methodLink RX2 51 yX2_mayPass ∈ tbG := tbk2 235 rfl rfl
theorem okRX2_51 : okV RX2 51 MX2_mayPass := okV.of wcX2_mayPass wlRX2_51 wnX2_mayPass weX2_mayPass wi3 nh3.1 nh3.2
set_option maxRecDepth 20000 in
theorem wlRX2_55 : Cond.methodLink RX2 55 yX2_pass ∈ tbG := tbk3 4 rfl rfl
theorem okRX2_55 : okV RX2 55 MX2_pass := okV.of wcX2_pass wlRX2_55 wnX2_pass weX2_pass wi3 nh3.1 nh3.2
set_option maxRecDepth 20000 in
theorem wlRX2_59 : Cond.methodLink RX2 59 yX3_from ∈ tbG := tbk2 239 rfl rfl
theorem okRX2_59 : okV RX2 59 MX3_from := okV.of wcX3_from wlRX2_59 wnX3_from weX3_from wi4 nh4.1 nh4.2
set_option maxRecDepth 20000 in
theorem wlRX2_62 : Cond.methodLink RX2 62 yX3_isOpen ∈ tbG := tbk3 0 rfl rfl
theorem okRX2_62 : okV RX2 62 MX3_isOpen := okV.of wcX3_isOpen wlRX2_62 wnX3_isOpen weX3_isOpen wi4 nh4.1 nh4.2
set_option maxRecDepth 20000 in
theorem wlRX2_65 : Cond.methodLink RX2 65 yX3_isWatched ∈ tbG := tbk3 1 rfl rfl
theorem okRX2_65 : okV RX2 65 MX3_isWatched := okV.of wcX3_isWatched wlRX2_65 wnX3_isWatched weX3_isWatched wi4 nh4.1 nh4.2
set_option maxRecDepth 20000 in
theorem wlRX2_68 : Cond.methodLink RX2 68 yX5_strikes ∈ tbG := tbk3 2 rfl rfl
theorem okRX2_68 : okV RX2 68 MX5_strikes := okV.of wcX5_strikes wlRX2_68 wnX5_strikes weX5_strikes wi6 nh6.1 nh6.2
set_option maxRecDepth 20000 in
theorem wlRX2_71 : Cond.methodLink RX2 71 yX3_roomTold ∈ tbG := tbk3 3 rfl rfl
theorem okRX2_71 : okV RX2 71 MX3_roomTold := okV.of wcX3_roomTold wlRX2_71 wnX3_roomTold weX3_roomTold wi4 nh4.1 nh4.2
set_option maxRecDepth 20000 in
theorem wlRX2_74 : Cond.methodLink RX2 74 yX3_to ∈ tbG := tbk3 8 rfl rfl
theorem okRX2_74 : okV RX2 74 MX3_to := okV.of wcX3_to wlRX2_74 wnX3_to weX3_to wi4 nh4.1 nh4.2
set_option maxRecDepth 20000 in
theorem wlRX2_77 : Cond.methodLink RX2 77 yX5_stamp ∈ tbG := tbk3 9 rfl rfl
theorem okRX2_77 : okV RX2 77 MX5_stamp := okV.of wcX5_stamp wlRX2_77 wnX5_stamp weX5_stamp wi6 nh6.1 nh6.2
set_option maxRecDepth 20000 in
theorem wlRX2_80 : Cond.methodLink RX2 80 yJ9_max_7cf53 ∈ tbG := tbk3 10 rfl rfl
theorem okRX2_80 : okS RX2 80 MJ9_max_7cf53 := ⟨wcJ9_max_7cf53, wlRX2_80, wsJ9_max_7cf53, wi14, nh14.1, nh14.2⟩
set_option maxRecDepth 20000 in
theorem wlRX3_22 : Cond.methodLink RX3 22 yX3_forget ∈ tbG := tbk2 75 rfl rfl
theorem okRX3_22 : okV RX3 22 MX3_forget := okV.of wcX3_forget wlRX3_22 wnX3_forget weX3_forget wi4 nh4.1 nh4.2
set_option maxRecDepth 20000 in
theorem wlRX3_25 : Cond.methodLink RX3 25 yX8_size ∈ tbG := tbk2 79 rfl rfl
theorem okRX3_25 : okV RX3 25 MX8_size := okV.of wcX8_size wlRX3_25 wnX8_size weX8_size wi9 nh9.1 nh9.2
set_option maxRecDepth 20000 in
theorem wlRX3_31 : Cond.methodLink RX3 31 yX3_faultOf ∈ tbG := tbk2 83 rfl rfl
theorem okRX3_31 : okV RX3 31 MX3_faultOf := okV.of wcX3_faultOf wlRX3_31 wnX3_faultOf weX3_faultOf wi4 nh4.1 nh4.2
set_option maxRecDepth 20000 in
theorem wlRX3_41 : Cond.methodLink RX3 41 yX8_at ∈ tbG := tbk2 87 rfl rfl
theorem okRX3_41 : okV RX3 41 MX8_at := okV.of wcX8_at wlRX3_41 wnX8_at weX8_at wi9 nh9.1 nh9.2
set_option maxRecDepth 20000 in
theorem wlRX3_45 : Cond.methodLink RX3 45 yX3_takeRoom ∈ tbG := tbk2 91 rfl rfl
theorem okRX3_45 : okV RX3 45 MX3_takeRoom := okV.of wcX3_takeRoom wlRX3_45 wnX3_takeRoom weX3_takeRoom wi4 nh4.1 nh4.2
set_option maxRecDepth 20000 in
theorem wlRX3_49 : Cond.methodLink RX3 49 yX3_takeGate ∈ tbG := tbk2 98 rfl rfl
theorem okRX3_49 : okV RX3 49 MX3_takeGate := okV.of wcX3_takeGate wlRX3_49 wnX3_takeGate weX3_takeGate wi4 nh4.1 nh4.2
set_option maxRecDepth 20000 in
theorem wlRX3_52 : Cond.methodLink RX3 52 yX3_isTownByte ∈ tbG := tbk2 102 rfl rfl
theorem okRX3_52 : okS RX3 52 MX3_isTownByte := ⟨wcX3_isTownByte, wlRX3_52, wsX3_isTownByte, wi4, nh4.1, nh4.2⟩
set_option maxRecDepth 20000 in
theorem wlRX3_56 : Cond.methodLink RX3 56 yX3_isFigure ∈ tbG := tbk2 95 rfl rfl
theorem okRX3_56 : okS RX3 56 MX3_isFigure := ⟨wcX3_isFigure, wlRX3_56, wsX3_isFigure, wi4, nh4.1, nh4.2⟩
set_option maxRecDepth 20000 in
theorem wlRX3_62 : Cond.methodLink RX3 62 yJ6_bitCount_0f7a4 ∈ tbG := tbk5 15 rfl rfl
theorem okRX3_62 : okS RX3 62 MJ6_bitCount_0f7a4 := ⟨wcJ6_bitCount_0f7a4, wlRX3_62, wsJ6_bitCount_0f7a4, wi13, nh13.1, nh13.2⟩
set_option maxRecDepth 20000 in
theorem wlRX4_28 : Cond.methodLink RX4 28 yX4_isFull ∈ tbG := tbk4 40 rfl rfl
theorem okRX4_28 : okV RX4 28 MX4_isFull := okV.of wcX4_isFull wlRX4_28 wnX4_isFull weX4_isFull wi5 nh5.1 nh5.2
set_option maxRecDepth 20000 in
theorem wlRX4_32 : Cond.methodLink RX4 32 yX5_at ∈ tbG := tbk4 41 rfl rfl
theorem okRX4_32 : okV RX4 32 MX5_at := okV.of wcX5_at wlRX4_32 wnX5_at weX5_at wi6 nh6.1 nh6.2
set_option maxRecDepth 20000 in
theorem wlRX4_38 : Cond.methodLink RX4 38 yX5_size ∈ tbG := tbk4 42 rfl rfl
theorem okRX4_38 : okV RX4 38 MX5_size := okV.of wcX5_size wlRX4_38 wnX5_size weX5_size wi6 nh6.1 nh6.2
set_option maxRecDepth 20000 in
theorem wlRX4_41 : Cond.methodLink RX4 41 yJ9_max_7cf53 ∈ tbG := tbk4 82 rfl rfl
theorem okRX4_41 : okS RX4 41 MJ9_max_7cf53 := ⟨wcJ9_max_7cf53, wlRX4_41, wsJ9_max_7cf53, wi14, nh14.1, nh14.2⟩
set_option maxRecDepth 20000 in
theorem wlRX4_47 : Cond.methodLink RX4 47 yX4_unlikeAt ∈ tbG := tbk4 106 rfl rfl
theorem okRX4_47 : okV RX4 47 MX4_unlikeAt := okV.of wcX4_unlikeAt wlRX4_47 wnX4_unlikeAt weX4_unlikeAt wi5 nh5.1 nh5.2
set_option maxRecDepth 20000 in
theorem wlRX4_51 : Cond.methodLink RX4 51 yX4_isLetBy ∈ tbG := tbk4 119 rfl rfl
theorem okRX4_51 : okV RX4 51 MX4_isLetBy := okV.of wcX4_isLetBy wlRX4_51 wnX4_isLetBy weX4_isLetBy wi5 nh5.1 nh5.2
set_option maxRecDepth 20000 in
theorem wlRX4_55 : Cond.methodLink RX4 55 yX4_gatherUnlike ∈ tbG := tbk4 135 rfl rfl
theorem okRX4_55 : okV RX4 55 MX4_gatherUnlike := okV.of wcX4_gatherUnlike wlRX4_55 wnX4_gatherUnlike weX4_gatherUnlike wi5 nh5.1 nh5.2
set_option maxRecDepth 20000 in
theorem wlRX4_58 : Cond.methodLink RX4 58 yJ6_bitCount_0f7a4 ∈ tbG := tbk4 139 rfl rfl
theorem okRX4_58 : okS RX4 58 MJ6_bitCount_0f7a4 := ⟨wcJ6_bitCount_0f7a4, wlRX4_58, wsJ6_bitCount_0f7a4, wi13, nh13.1, nh13.2⟩
set_option maxRecDepth 20000 in
theorem wlRX4_63 : Cond.methodLink RX4 63 yX4_partsAll ∈ tbG := tbk4 145 rfl rfl
theorem okRX4_63 : okV RX4 63 MX4_partsAll := okV.of wcX4_partsAll wlRX4_63 wnX4_partsAll weX4_partsAll wi5 nh5.1 nh5.2
set_option maxRecDepth 20000 in
theorem wlRX4_66 : Cond.methodLink RX4 66 yX4_unlikeOf ∈ tbG := tbk4 123 rfl rfl
theorem okRX4_66 : okV RX4 66 MX4_unlikeOf := okV.of wcX4_unlikeOf wlRX4_66 wnX4_unlikeOf weX4_unlikeOf wi5 nh5.1 nh5.2
set_option maxRecDepth 20000 in
theorem wlRX4_69 : Cond.methodLink RX4 69 yX4_stampAt ∈ tbG := tbk4 110 rfl rfl
theorem okRX4_69 : okV RX4 69 MX4_stampAt := okV.of wcX4_stampAt wlRX4_69 wnX4_stampAt weX4_stampAt wi5 nh5.1 nh5.2
set_option maxRecDepth 20000 in
theorem wlRX5_19 : Cond.methodLink RX5 19 yX5_strikes ∈ tbG := tbk2 190 rfl rfl
theorem okRX5_19 : okV RX5 19 MX5_strikes := okV.of wcX5_strikes wlRX5_19 wnX5_strikes weX5_strikes wi6 nh6.1 nh6.2
set_option maxRecDepth 20000 in
theorem wlRX5_23 : Cond.methodLink RX5 23 yX5_size ∈ tbG := tbk3 25 rfl rfl
theorem okRX5_23 : okV RX5 23 MX5_size := okV.of wcX5_size wlRX5_23 wnX5_size weX5_size wi6 nh6.1 nh6.2
set_option maxRecDepth 20000 in
theorem wlRX5_26 : Cond.methodLink RX5 26 yJ9_min_7cf53 ∈ tbG := tbk3 26 rfl rfl
theorem okRX5_26 : okS RX5 26 MJ9_min_7cf53 := ⟨wcJ9_min_7cf53, wlRX5_26, wsJ9_min_7cf53, wi14, nh14.1, nh14.2⟩
set_option maxRecDepth 20000 in
theorem wlRX5_32 : Cond.methodLink RX5 32 yX5_at ∈ tbG := tbk3 27 rfl rfl
theorem okRX5_32 : okV RX5 32 MX5_at := okV.of wcX5_at wlRX5_32 wnX5_at weX5_at wi6 nh6.1 nh6.2
set_option maxRecDepth 20000 in
theorem wlRX6_33 : Cond.methodLink RX6 33 yX3_openLanes ∈ tbG := tbk3 48 rfl rfl
theorem okRX6_33 : okV RX6 33 MX3_openLanes := okV.of wcX3_openLanes wlRX6_33 wnX3_openLanes weX3_openLanes wi4 nh4.1 nh4.2
set_option maxRecDepth 20000 in
theorem wlRX6_39 : Cond.methodLink RX6 39 yX0_measure ∈ tbG := tbk3 52 rfl rfl
theorem okRX6_39 : okV RX6 39 MX0_measure := okV.of wcX0_measure wlRX6_39 wnX0_measure weX0_measure wi1 nh1.1 nh1.2
set_option maxRecDepth 20000 in
theorem wlRX6_47 : Cond.methodLink RX6 47 yX5_alike ∈ tbG := tbk3 75 rfl rfl
theorem okRX6_47 : okV RX6 47 MX5_alike := okV.of wcX5_alike wlRX6_47 wnX5_alike weX5_alike wi6 nh6.1 nh6.2
set_option maxRecDepth 20000 in
theorem wlRX6_53 : Cond.methodLink RX6 53 yX5_size ∈ tbG := tbk3 76 rfl rfl
theorem okRX6_53 : okV RX6 53 MX5_size := okV.of wcX5_size wlRX6_53 wnX5_size weX5_size wi6 nh6.1 nh6.2
set_option maxRecDepth 20000 in
theorem wlRX6_55 : Cond.methodLink RX6 55 yX5_at ∈ tbG := tbk3 77 rfl rfl
theorem okRX6_55 : okV RX6 55 MX5_at := okV.of wcX5_at wlRX6_55 wnX5_at weX5_at wi6 nh6.1 nh6.2
set_option maxRecDepth 20000 in
theorem wlRX6_59 : Cond.methodLink RX6 59 yX6_need ∈ tbG := tbk3 78 rfl rfl
theorem okRX6_59 : okV RX6 59 MX6_need := okV.of wcX6_need wlRX6_59 wnX6_need weX6_need wi7 nh7.1 nh7.2
set_option maxRecDepth 20000 in
theorem wlRX6_63 : Cond.methodLink RX6 63 yX6_needAt ∈ tbG := tbk3 90 rfl rfl
theorem okRX6_63 : okV RX6 63 MX6_needAt := okV.of wcX6_needAt wlRX6_63 wnX6_needAt weX6_needAt wi7 nh7.1 nh7.2
set_option maxRecDepth 20000 in
theorem wlRX6_66 : Cond.methodLink RX6 66 yX3_from ∈ tbG := tbk3 99 rfl rfl
theorem okRX6_66 : okV RX6 66 MX3_from := okV.of wcX3_from wlRX6_66 wnX3_from weX3_from wi4 nh4.1 nh4.2
set_option maxRecDepth 20000 in
theorem wlRX6_69 : Cond.methodLink RX6 69 yX3_to ∈ tbG := tbk3 94 rfl rfl
theorem okRX6_69 : okV RX6 69 MX3_to := okV.of wcX3_to wlRX6_69 wnX3_to weX3_to wi4 nh4.1 nh4.2
set_option maxRecDepth 20000 in
theorem wlRX6_72 : Cond.methodLink RX6 72 yX6_origin ∈ tbG := tbk3 86 rfl rfl
theorem okRX6_72 : okV RX6 72 MX6_origin := okV.of wcX6_origin wlRX6_72 wnX6_origin weX6_origin wi7 nh7.1 nh7.2
set_option maxRecDepth 20000 in
theorem wlRX6_76 : Cond.methodLink RX6 76 yX6_goal ∈ tbG := tbk3 95 rfl rfl
theorem okRX6_76 : okV RX6 76 MX6_goal := okV.of wcX6_goal wlRX6_76 wnX6_goal weX6_goal wi7 nh7.1 nh7.2
set_option maxRecDepth 20000 in
theorem wlRX6_79 : Cond.methodLink RX6 79 yX0_between ∈ tbG := tbk3 100 rfl rfl
theorem okRX6_79 : okV RX6 79 MX0_between := okV.of wcX0_between wlRX6_79 wnX0_between weX0_between wi1 nh1.1 nh1.2
set_option maxRecDepth 20000 in
theorem wlRX6_82 : Cond.methodLink RX6 82 yX3_isOpen ∈ tbG := tbk3 105 rfl rfl
theorem okRX6_82 : okV RX6 82 MX3_isOpen := okV.of wcX3_isOpen wlRX6_82 wnX3_isOpen weX3_isOpen wi4 nh4.1 nh4.2
set_option maxRecDepth 20000 in
theorem wlRX6_86 : Cond.methodLink RX6 86 yX6_laneWays ∈ tbG := tbk3 110 rfl rfl
theorem okRX6_86 : okV RX6 86 MX6_laneWays := okV.of wcX6_laneWays wlRX6_86 wnX6_laneWays weX6_laneWays wi7 nh7.1 nh7.2
set_option maxRecDepth 20000 in
theorem wlRX6_90 : Cond.methodLink RX6 90 yJ7_fill_d0a16 ∈ tbG := tbk3 114 rfl rfl
theorem okRX6_90 : okS RX6 90 MJ7_fill_d0a16 := ⟨wcJ7_fill_d0a16, wlRX6_90, wsJ7_fill_d0a16, wi16, nh16.1, nh16.2⟩
set_option maxRecDepth 20000 in
theorem wlRX6_99 : Cond.methodLink RX6 99 yX6_stepNearer ∈ tbG := tbk3 118 rfl rfl
theorem okRX6_99 : okV RX6 99 MX6_stepNearer := okV.of wcX6_stepNearer wlRX6_99 wnX6_stepNearer weX6_stepNearer wi7 nh7.1 nh7.2
set_option maxRecDepth 20000 in
theorem wlRX6_103 : Cond.methodLink RX6 103 yX3_letters ∈ tbG := tbk3 122 rfl rfl
theorem okRX6_103 : okV RX6 103 MX3_letters := okV.of wcX3_letters wlRX6_103 wnX3_letters weX3_letters wi4 nh4.1 nh4.2
set_option maxRecDepth 20000 in
theorem wlRX6_106 : Cond.methodLink RX6 106 yX6_isLane ∈ tbG := tbk3 126 rfl rfl
theorem okRX6_106 : okV RX6 106 MX6_isLane := okV.of wcX6_isLane wlRX6_106 wnX6_isLane weX6_isLane wi7 nh7.1 nh7.2
set_option maxRecDepth 20000 in
theorem wlRX6_109 : Cond.methodLink RX6 109 arraycopyName ∈ tbG := tbk3 131 rfl rfl
set_option maxRecDepth 20000 in
theorem wlRX6_115 : Cond.methodLink RX6 115 yX3_isWatched ∈ tbG := tbk3 130 rfl rfl
theorem okRX6_115 : okV RX6 115 MX3_isWatched := okV.of wcX3_isWatched wlRX6_115 wnX3_isWatched weX3_isWatched wi4 nh4.1 nh4.2
set_option maxRecDepth 20000 in
theorem wlRX6_118 : Cond.methodLink RX6 118 yX6_leastLaneLetter ∈ tbG := tbk3 142 rfl rfl
theorem okRX6_118 : okV RX6 118 MX6_leastLaneLetter := okV.of wcX6_leastLaneLetter wlRX6_118 wnX6_leastLaneLetter weX6_leastLaneLetter wi7 nh7.1 nh7.2
set_option maxRecDepth 20000 in
theorem wlRX6_122 : Cond.methodLink RX6 122 yX6_leastNearer ∈ tbG := tbk3 146 rfl rfl
theorem okRX6_122 : okV RX6 122 MX6_leastNearer := okV.of wcX6_leastNearer wlRX6_122 wnX6_leastNearer weX6_leastNearer wi7 nh7.1 nh7.2
set_option maxRecDepth 20000 in
theorem wlRX6_125 : Cond.methodLink RX6 125 yX6_isChained ∈ tbG := tbk3 205 rfl rfl
theorem okRX6_125 : okV RX6 125 MX6_isChained := okV.of wcX6_isChained wlRX6_125 wnX6_isChained weX6_isChained wi7 nh7.1 nh7.2
set_option maxRecDepth 20000 in
theorem wlRX6_129 : Cond.methodLink RX6 129 yX0_reachedFrom ∈ tbG := tbk3 210 rfl rfl
theorem okRX6_129 : okV RX6 129 MX0_reachedFrom := okV.of wcX0_reachedFrom wlRX6_129 wnX0_reachedFrom weX0_reachedFrom wi1 nh1.1 nh1.2
set_option maxRecDepth 20000 in
theorem wlRX6_132 : Cond.methodLink RX6 132 yX6_gatesBetween ∈ tbG := tbk3 209 rfl rfl
theorem okRX6_132 : okV RX6 132 MX6_gatesBetween := okV.of wcX6_gatesBetween wlRX6_132 wnX6_gatesBetween weX6_gatesBetween wi7 nh7.1 nh7.2
set_option maxRecDepth 20000 in
theorem wlRX7_23 : Cond.methodLink RX7 23 yJ7_fill_53178 ∈ tbG := tbk1 221 rfl rfl
theorem okRX7_23 : okS RX7 23 MJ7_fill_53178 := ⟨wcJ7_fill_53178, wlRX7_23, wsJ7_fill_53178, wi16, nh16.1, nh16.2⟩
set_option maxRecDepth 20000 in
theorem wlRX7_33 : Cond.methodLink RX7 33 yX7_isLost ∈ tbG := tbk4 214 rfl rfl
theorem okRX7_33 : okV RX7 33 MX7_isLost := okV.of wcX7_isLost wlRX7_33 wnX7_isLost weX7_isLost wi8 nh8.1 nh8.2
set_option maxRecDepth 20000 in
theorem wlRX7_37 : Cond.methodLink RX7 37 yX7_hasRun ∈ tbG := tbk4 232 rfl rfl
theorem okRX7_37 : okV RX7 37 MX7_hasRun := okV.of wcX7_hasRun wlRX7_37 wnX7_hasRun weX7_hasRun wi8 nh8.1 nh8.2
set_option maxRecDepth 20000 in
theorem wlRX7_41 : Cond.methodLink RX7 41 arraycopyName ∈ tbG := tbk5 0 rfl rfl
set_option maxRecDepth 20000 in
theorem wlRX8_15 : Cond.methodLink RX8 15 yJ9_min_7cf53 ∈ tbG := tbk2 2 rfl rfl
theorem okRX8_15 : okS RX8 15 MJ9_min_7cf53 := ⟨wcJ9_min_7cf53, wlRX8_15, wsJ9_min_7cf53, wi14, nh14.1, nh14.2⟩
set_option maxRecDepth 20000 in
theorem wlRX9_41 : Cond.methodLink RX9 41 yX5_size ∈ tbG := tbk3 227 rfl rfl
theorem okRX9_41 : okV RX9 41 MX5_size := okV.of wcX5_size wlRX9_41 wnX5_size weX5_size wi6 nh6.1 nh6.2
set_option maxRecDepth 20000 in
theorem wlRX9_51 : Cond.methodLink RX9 51 yX9_joinTowns ∈ tbG := tbk3 229 rfl rfl
theorem okRX9_51 : okV RX9 51 MX9_joinTowns := okV.of wcX9_joinTowns wlRX9_51 wnX9_joinTowns weX9_joinTowns wi10 nh10.1 nh10.2
set_option maxRecDepth 20000 in
theorem wlRX9_54 : Cond.methodLink RX9 54 yX9_countRounds ∈ tbG := tbk3 236 rfl rfl
theorem okRX9_54 : okV RX9 54 MX9_countRounds := okV.of wcX9_countRounds wlRX9_54 wnX9_countRounds weX9_countRounds wi10 nh10.1 nh10.2
set_option maxRecDepth 20000 in
theorem wlRX9_58 : Cond.methodLink RX9 58 yJ7_fill_d0a16 ∈ tbG := tbk4 0 rfl rfl
theorem okRX9_58 : okS RX9 58 MJ7_fill_d0a16 := ⟨wcJ7_fill_d0a16, wlRX9_58, wsJ7_fill_d0a16, wi16, nh16.1, nh16.2⟩
set_option maxRecDepth 20000 in
theorem wlRX9_64 : Cond.methodLink RX9 64 yX9_countFrom ∈ tbG := tbk4 19 rfl rfl
theorem okRX9_64 : okV RX9 64 MX9_countFrom := okV.of wcX9_countFrom wlRX9_64 wnX9_countFrom weX9_countFrom wi10 nh10.1 nh10.2
set_option maxRecDepth 20000 in
theorem wlRX9_68 : Cond.methodLink RX9 68 yX5_at ∈ tbG := tbk4 23 rfl rfl
theorem okRX9_68 : okV RX9 68 MX5_at := okV.of wcX5_at wlRX9_68 wnX5_at weX5_at wi6 nh6.1 nh6.2
set_option maxRecDepth 20000 in
theorem wlRX9_72 : Cond.methodLink RX9 72 yX3_isOpen ∈ tbG := tbk4 3 rfl rfl
theorem okRX9_72 : okV RX9 72 MX3_isOpen := okV.of wcX3_isOpen wlRX9_72 wnX3_isOpen weX3_isOpen wi4 nh4.1 nh4.2
set_option maxRecDepth 20000 in
theorem wlRX9_77 : Cond.methodLink RX9 77 yX9_stampForGood ∈ tbG := tbk4 24 rfl rfl
theorem okRX9_77 : okV RX9 77 MX9_stampForGood := okV.of wcX9_stampForGood wlRX9_77 wnX9_stampForGood weX9_stampForGood wi10 nh10.1 nh10.2
set_option maxRecDepth 20000 in
theorem wlRX9_81 : Cond.methodLink RX9 81 yX3_to ∈ tbG := tbk4 2 rfl rfl
theorem okRX9_81 : okV RX9 81 MX3_to := okV.of wcX3_to wlRX9_81 wnX3_to weX3_to wi4 nh4.1 nh4.2
set_option maxRecDepth 20000 in
theorem wlRX9_84 : Cond.methodLink RX9 84 yX3_openLanes ∈ tbG := tbk3 233 rfl rfl
theorem okRX9_84 : okV RX9 84 MX3_openLanes := okV.of wcX3_openLanes wlRX9_84 wnX3_openLanes weX3_openLanes wi4 nh4.1 nh4.2
set_option maxRecDepth 20000 in
theorem wlRX9_87 : Cond.methodLink RX9 87 yX0_measure ∈ tbG := tbk3 234 rfl rfl
theorem okRX9_87 : okV RX9 87 MX0_measure := okV.of wcX0_measure wlRX9_87 wnX0_measure weX0_measure wi1 nh1.1 nh1.2
set_option maxRecDepth 20000 in
theorem wlRX9_91 : Cond.methodLink RX9 91 yX0_reachedFrom ∈ tbG := tbk3 235 rfl rfl
theorem okRX9_91 : okV RX9 91 MX0_reachedFrom := okV.of wcX0_reachedFrom wlRX9_91 wnX0_reachedFrom weX0_reachedFrom wi1 nh1.1 nh1.2
set_option maxRecDepth 20000 in
theorem wlRX9_94 : Cond.methodLink RX9 94 yX3_from ∈ tbG := tbk4 14 rfl rfl
theorem okRX9_94 : okV RX9 94 MX3_from := okV.of wcX3_from wlRX9_94 wnX3_from weX3_from wi4 nh4.1 nh4.2
set_option maxRecDepth 20000 in
theorem wlRX9_97 : Cond.methodLink RX9 97 yX9_lengthen ∈ tbG := tbk4 5 rfl rfl
theorem okRX9_97 : okV RX9 97 MX9_lengthen := okV.of wcX9_lengthen wlRX9_97 wnX9_lengthen weX9_lengthen wi10 nh10.1 nh10.2
set_option maxRecDepth 20000 in
theorem wlRX9_101 : Cond.methodLink RX9 101 yX3_letters ∈ tbG := tbk4 1 rfl rfl
theorem okRX9_101 : okV RX9 101 MX3_letters := okV.of wcX3_letters wlRX9_101 wnX3_letters weX3_letters wi4 nh4.1 nh4.2
set_option maxRecDepth 20000 in
theorem wlRX9_104 : Cond.methodLink RX9 104 yX3_isWatched ∈ tbG := tbk4 4 rfl rfl
theorem okRX9_104 : okV RX9 104 MX3_isWatched := okV.of wcX3_isWatched wlRX9_104 wnX3_isWatched weX3_isWatched wi4 nh4.1 nh4.2
set_option maxRecDepth 20000 in
theorem wlRX9_107 : Cond.methodLink RX9 107 yX9_goOnByLanes ∈ tbG := tbk4 9 rfl rfl
theorem okRX9_107 : okV RX9 107 MX9_goOnByLanes := okV.of wcX9_goOnByLanes wlRX9_107 wnX9_goOnByLanes weX9_goOnByLanes wi10 nh10.1 nh10.2
set_option maxRecDepth 20000 in
theorem wlRX9_111 : Cond.methodLink RX9 111 yX9_behindRounds ∈ tbG := tbk4 15 rfl rfl
theorem okRX9_111 : okV RX9 111 MX9_behindRounds := okV.of wcX9_behindRounds wlRX9_111 wnX9_behindRounds weX9_behindRounds wi10 nh10.1 nh10.2
set_option maxRecDepth 20000 in
theorem wlRX9_115 : Cond.methodLink RX9 115 yX3_gatesTold ∈ tbG := tbk4 13 rfl rfl
theorem okRX9_115 : okV RX9 115 MX3_gatesTold := okV.of wcX3_gatesTold wlRX9_115 wnX3_gatesTold weX3_gatesTold wi4 nh4.1 nh4.2
set_option maxRecDepth 20000 in
theorem wlRL_13 : Cond.methodLink RL 13 yX10_type ∈ tbG := tbk2 52 rfl rfl
theorem okRL_13 : okV RL 13 MX10_type := okV.of wcX10_type wlRL_13 wnX10_type weX10_type wi0 nh0.1 nh0.2
set_option maxRecDepth 20000 in
theorem wlRL_17 : Cond.methodLink RL 17 yX11_type ∈ tbG := tbk5 211 rfl rfl
theorem okRL_17 : okV RL 17 MX11_type := okV.of wcX11_type wlRL_17 wnX11_type weX11_type wi12 nh12.1 nh12.2
set_option maxRecDepth 20000 in
theorem wlRL_18 : Cond.methodLink RL 18 yX10_wipe ∈ tbG := tbk2 106 rfl rfl
theorem okRL_18 : okV RL 18 MX10_wipe := okV.of wcX10_wipe wlRL_18 wnX10_wipe weX10_wipe wi0 nh0.1 nh0.2
set_option maxRecDepth 20000 in
theorem wlRL_22 : Cond.methodLink RL 22 yX11_wipe ∈ tbG := tbk5 222 rfl rfl
theorem okRL_22 : okV RL 22 MX11_wipe := okV.of wcX11_wipe wlRL_22 wnX11_wipe weX11_wipe wi12 nh12.1 nh12.2
set_option maxRecDepth 20000 in
theorem wlRL_23 : Cond.methodLink RL 23 yX10_fault ∈ tbG := tbk2 114 rfl rfl
theorem okRL_23 : okV RL 23 MX10_fault := okV.of wcX10_fault wlRL_23 wnX10_fault weX10_fault wi0 nh0.1 nh0.2
set_option maxRecDepth 20000 in
theorem wlRL_26 : Cond.methodLink RL 26 yX11_fault ∈ tbG := tbk5 226 rfl rfl
theorem okRL_26 : okV RL 26 MX11_fault := okV.of wcX11_fault wlRL_26 wnX11_fault weX11_fault wi12 nh12.1 nh12.2
set_option maxRecDepth 20000 in
theorem wlRL_27 : Cond.methodLink RL 27 yX10_gate ∈ tbG := tbk2 131 rfl rfl
theorem okRL_27 : okV RL 27 MX10_gate := okV.of wcX10_gate wlRL_27 wnX10_gate weX10_gate wi0 nh0.1 nh0.2
set_option maxRecDepth 20000 in
theorem wlRL_30 : Cond.methodLink RL 30 yX11_gate ∈ tbG := tbk6 25 rfl rfl
theorem okRL_30 : okV RL 30 MX11_gate := okV.of wcX11_gate wlRL_30 wnX11_gate weX11_gate wi12 nh12.1 nh12.2
set_option maxRecDepth 20000 in
theorem wlRL_31 : Cond.methodLink RL 31 yX10_room ∈ tbG := tbk2 155 rfl rfl
theorem okRL_31 : okV RL 31 MX10_room := okV.of wcX10_room wlRL_31 wnX10_room weX10_room wi0 nh0.1 nh0.2
set_option maxRecDepth 20000 in
theorem wlRL_35 : Cond.methodLink RL 35 yX11_room ∈ tbG := tbk6 33 rfl rfl
theorem okRL_35 : okV RL 35 MX11_room := okV.of wcX11_room wlRL_35 wnX11_room weX11_room wi12 nh12.1 nh12.2
set_option maxRecDepth 20000 in
theorem wlRL_36 : Cond.methodLink RL 36 yX10_shut ∈ tbG := tbk2 163 rfl rfl
theorem okRL_36 : okV RL 36 MX10_shut := okV.of wcX10_shut wlRL_36 wnX10_shut weX10_shut wi0 nh0.1 nh0.2
set_option maxRecDepth 20000 in
theorem wlRL_39 : Cond.methodLink RL 39 yX11_shut ∈ tbG := tbk6 37 rfl rfl
theorem okRL_39 : okV RL 39 MX11_shut := okV.of wcX11_shut wlRL_39 wnX11_shut weX11_shut wi12 nh12.1 nh12.2
set_option maxRecDepth 20000 in
theorem wlRL_40 : Cond.methodLink RL 40 yX10_paper ∈ tbG := tbk2 171 rfl rfl
theorem okRL_40 : okV RL 40 MX10_paper := okV.of wcX10_paper wlRL_40 wnX10_paper weX10_paper wi0 nh0.1 nh0.2
set_option maxRecDepth 20000 in
theorem wlRL_43 : Cond.methodLink RL 43 yX11_paper ∈ tbG := tbk6 42 rfl rfl
theorem okRL_43 : okV RL 43 MX11_paper := okV.of wcX11_paper wlRL_43 wnX11_paper weX11_paper wi12 nh12.1 nh12.2
set_option maxRecDepth 20000 in
theorem wlRL_44 : Cond.methodLink RL 44 yX10_judged ∈ tbG := tbk2 205 rfl rfl
theorem okRL_44 : okV RL 44 MX10_judged := okV.of wcX10_judged wlRL_44 wnX10_judged weX10_judged wi0 nh0.1 nh0.2
set_option maxRecDepth 20000 in
theorem wlRL_48 : Cond.methodLink RL 48 yX11_judged ∈ tbG := tbk6 71 rfl rfl
theorem okRL_48 : okV RL 48 MX11_judged := okV.of wcX11_judged wlRL_48 wnX11_judged weX11_judged wi12 nh12.1 nh12.2
set_option maxRecDepth 20000 in
theorem wlRL_49 : Cond.methodLink RL 49 yX10_same ∈ tbG := tbk3 17 rfl rfl
theorem okRL_49 : okV RL 49 MX10_same := okV.of wcX10_same wlRL_49 wnX10_same weX10_same wi0 nh0.1 nh0.2
set_option maxRecDepth 20000 in
theorem wlRL_52 : Cond.methodLink RL 52 yX11_same ∈ tbG := tbk6 92 rfl rfl
theorem okRL_52 : okV RL 52 MX11_same := okV.of wcX11_same wlRL_52 wnX11_same weX11_same wi12 nh12.1 nh12.2
set_option maxRecDepth 20000 in
theorem wlRL_53 : Cond.methodLink RL 53 yX10_shortest ∈ tbG := tbk3 28 rfl rfl
theorem okRL_53 : okV RL 53 MX10_shortest := okV.of wcX10_shortest wlRL_53 wnX10_shortest weX10_shortest wi0 nh0.1 nh0.2
set_option maxRecDepth 20000 in
theorem wlRL_57 : Cond.methodLink RL 57 yX11_shortest ∈ tbG := tbk6 104 rfl rfl
theorem okRL_57 : okV RL 57 MX11_shortest := okV.of wcX11_shortest wlRL_57 wnX11_shortest weX11_shortest wi12 nh12.1 nh12.2
set_option maxRecDepth 20000 in
theorem wlRL_58 : Cond.methodLink RL 58 yX10_letter ∈ tbG := tbk3 134 rfl rfl
theorem okRL_58 : okV RL 58 MX10_letter := okV.of wcX10_letter wlRL_58 wnX10_letter weX10_letter wi0 nh0.1 nh0.2
set_option maxRecDepth 20000 in
theorem wlRL_62 : Cond.methodLink RL 62 yX11_letter ∈ tbG := tbk6 144 rfl rfl
theorem okRL_62 : okV RL 62 MX11_letter := okV.of wcX11_letter wlRL_62 wnX11_letter weX11_letter wi12 nh12.1 nh12.2
set_option maxRecDepth 20000 in
theorem wlRL_63 : Cond.methodLink RL 63 yX10_errands ∈ tbG := tbk3 150 rfl rfl
theorem okRL_63 : okV RL 63 MX10_errands := okV.of wcX10_errands wlRL_63 wnX10_errands weX10_errands wi0 nh0.1 nh0.2
set_option maxRecDepth 20000 in
theorem wlRL_67 : Cond.methodLink RL 67 yX11_errands ∈ tbG := tbk6 152 rfl rfl
theorem okRL_67 : okV RL 67 MX11_errands := okV.of wcX11_errands wlRL_67 wnX11_errands weX11_errands wi12 nh12.1 nh12.2
set_option maxRecDepth 20000 in
theorem wlRL_68 : Cond.methodLink RL 68 yX10_clean ∈ tbG := tbk3 189 rfl rfl
theorem okRL_68 : okV RL 68 MX10_clean := okV.of wcX10_clean wlRL_68 wnX10_clean weX10_clean wi0 nh0.1 nh0.2
set_option maxRecDepth 20000 in
theorem wlRL_71 : Cond.methodLink RL 71 yX11_clean ∈ tbG := tbk6 168 rfl rfl
theorem okRL_71 : okV RL 71 MX11_clean := okV.of wcX11_clean wlRL_71 wnX11_clean weX11_clean wi12 nh12.1 nh12.2
set_option maxRecDepth 20000 in
theorem wlRL_72 : Cond.methodLink RL 72 yX10_found ∈ tbG := tbk3 197 rfl rfl
theorem okRL_72 : okV RL 72 MX10_found := okV.of wcX10_found wlRL_72 wnX10_found weX10_found wi0 nh0.1 nh0.2
set_option maxRecDepth 20000 in
theorem wlRL_75 : Cond.methodLink RL 75 yX11_found ∈ tbG := tbk6 176 rfl rfl
theorem okRL_75 : okV RL 75 MX11_found := okV.of wcX11_found wlRL_75 wnX11_found weX11_found wi12 nh12.1 nh12.2
set_option maxRecDepth 20000 in
theorem wlRL_76 : Cond.methodLink RL 76 yX10_many ∈ tbG := tbk3 219 rfl rfl
theorem okRL_76 : okV RL 76 MX10_many := okV.of wcX10_many wlRL_76 wnX10_many weX10_many wi0 nh0.1 nh0.2
set_option maxRecDepth 20000 in
theorem wlRL_80 : Cond.methodLink RL 80 yX11_many ∈ tbG := tbk6 184 rfl rfl
theorem okRL_80 : okV RL 80 MX11_many := okV.of wcX11_many wlRL_80 wnX11_many weX11_many wi12 nh12.1 nh12.2
set_option maxRecDepth 20000 in
theorem wlRL_81 : Cond.methodLink RL 81 yX10_list ∈ tbG := tbk4 28 rfl rfl
theorem okRL_81 : okV RL 81 MX10_list := okV.of wcX10_list wlRL_81 wnX10_list weX10_list wi0 nh0.1 nh0.2
set_option maxRecDepth 20000 in
theorem wlRL_84 : Cond.methodLink RL 84 yX11_list ∈ tbG := tbk6 208 rfl rfl
theorem okRL_84 : okV RL 84 MX11_list := okV.of wcX11_list wlRL_84 wnX11_list weX11_list wi12 nh12.1 nh12.2
set_option maxRecDepth 20000 in
theorem wlRL_85 : Cond.methodLink RL 85 yX10_read ∈ tbG := tbk4 47 rfl rfl
theorem okRL_85 : okV RL 85 MX10_read := okV.of wcX10_read wlRL_85 wnX10_read weX10_read wi0 nh0.1 nh0.2
set_option maxRecDepth 20000 in
theorem wlRL_88 : Cond.methodLink RL 88 yX11_read ∈ tbG := tbk6 216 rfl rfl
theorem okRL_88 : okV RL 88 MX11_read := okV.of wcX11_read wlRL_88 wnX11_read weX11_read wi12 nh12.1 nh12.2
set_option maxRecDepth 20000 in
theorem wlRL_89 : Cond.methodLink RL 89 yX10_unlist ∈ tbG := tbk4 74 rfl rfl
theorem okRL_89 : okV RL 89 MX10_unlist := okV.of wcX10_unlist wlRL_89 wnX10_unlist weX10_unlist wi0 nh0.1 nh0.2
set_option maxRecDepth 20000 in
theorem wlRL_92 : Cond.methodLink RL 92 yX11_unlist ∈ tbG := tbk6 220 rfl rfl
theorem okRL_92 : okV RL 92 MX11_unlist := okV.of wcX11_unlist wlRL_92 wnX11_unlist weX11_unlist wi12 nh12.1 nh12.2
set_option maxRecDepth 20000 in
theorem wlRL_93 : Cond.methodLink RL 93 yX10_listed ∈ tbG := tbk4 83 rfl rfl
theorem okRL_93 : okV RL 93 MX10_listed := okV.of wcX10_listed wlRL_93 wnX10_listed weX10_listed wi0 nh0.1 nh0.2
set_option maxRecDepth 20000 in
theorem wlRL_96 : Cond.methodLink RL 96 yX11_listed ∈ tbG := tbk6 224 rfl rfl
theorem okRL_96 : okV RL 96 MX11_listed := okV.of wcX11_listed wlRL_96 wnX11_listed weX11_listed wi12 nh12.1 nh12.2
set_option maxRecDepth 20000 in
theorem wlRL_97 : Cond.methodLink RL 97 yX10_lets ∈ tbG := tbk4 95 rfl rfl
theorem okRL_97 : okV RL 97 MX10_lets := okV.of wcX10_lets wlRL_97 wnX10_lets weX10_lets wi0 nh0.1 nh0.2
set_option maxRecDepth 20000 in
theorem wlRL_100 : Cond.methodLink RL 100 yX11_lets ∈ tbG := tbk6 233 rfl rfl
theorem okRL_100 : okV RL 100 MX11_lets := okV.of wcX11_lets wlRL_100 wnX11_lets weX11_lets wi12 nh12.1 nh12.2
set_option maxRecDepth 20000 in
theorem wlRL_101 : Cond.methodLink RL 101 yX10_slips ∈ tbG := tbk4 111 rfl rfl
theorem okRL_101 : okV RL 101 MX10_slips := okV.of wcX10_slips wlRL_101 wnX10_slips weX10_slips wi0 nh0.1 nh0.2
set_option maxRecDepth 20000 in
theorem wlRL_104 : Cond.methodLink RL 104 yX11_slips ∈ tbG := tbk7 5 rfl rfl
theorem okRL_104 : okV RL 104 MX11_slips := okV.of wcX11_slips wlRL_104 wnX11_slips weX11_slips wi12 nh12.1 nh12.2
set_option maxRecDepth 20000 in
theorem wlRL_105 : Cond.methodLink RL 105 yX10_fewest ∈ tbG := tbk4 127 rfl rfl
theorem okRL_105 : okV RL 105 MX10_fewest := okV.of wcX10_fewest wlRL_105 wnX10_fewest weX10_fewest wi0 nh0.1 nh0.2
set_option maxRecDepth 20000 in
theorem wlRL_108 : Cond.methodLink RL 108 yX11_fewest ∈ tbG := tbk7 13 rfl rfl
theorem okRL_108 : okV RL 108 MX11_fewest := okV.of wcX11_fewest wlRL_108 wnX11_fewest weX11_fewest wi12 nh12.1 nh12.2
set_option maxRecDepth 20000 in
theorem wlRL_109 : Cond.methodLink RL 109 yX10_far ∈ tbG := tbk4 149 rfl rfl
theorem okRL_109 : okV RL 109 MX10_far := okV.of wcX10_far wlRL_109 wnX10_far weX10_far wi0 nh0.1 nh0.2
set_option maxRecDepth 20000 in
theorem wlRL_112 : Cond.methodLink RL 112 yX11_far ∈ tbG := tbk7 24 rfl rfl
theorem okRL_112 : okV RL 112 MX11_far := okV.of wcX11_far wlRL_112 wnX11_far weX11_far wi12 nh12.1 nh12.2
set_option maxRecDepth 20000 in
theorem wlRL_113 : Cond.methodLink RL 113 yX10_without ∈ tbG := tbk4 162 rfl rfl
theorem okRL_113 : okV RL 113 MX10_without := okV.of wcX10_without wlRL_113 wnX10_without weX10_without wi0 nh0.1 nh0.2
set_option maxRecDepth 20000 in
theorem wlRL_116 : Cond.methodLink RL 116 yX11_without ∈ tbG := tbk7 40 rfl rfl
theorem okRL_116 : okV RL 116 MX11_without := okV.of wcX11_without wlRL_116 wnX11_without weX11_without wi12 nh12.1 nh12.2
set_option maxRecDepth 20000 in
theorem wlRL_117 : Cond.methodLink RL 117 yX10_with ∈ tbG := tbk4 179 rfl rfl
theorem okRL_117 : okV RL 117 MX10_with := okV.of wcX10_with wlRL_117 wnX10_with weX10_with wi0 nh0.1 nh0.2
set_option maxRecDepth 20000 in
theorem wlRL_120 : Cond.methodLink RL 120 yX11_with ∈ tbG := tbk7 48 rfl rfl
theorem okRL_120 : okV RL 120 MX11_with := okV.of wcX11_with wlRL_120 wnX11_with weX11_with wi12 nh12.1 nh12.2
set_option maxRecDepth 20000 in
theorem wlRL_121 : Cond.methodLink RL 121 yX10_sheet ∈ tbG := tbk4 187 rfl rfl
theorem okRL_121 : okV RL 121 MX10_sheet := okV.of wcX10_sheet wlRL_121 wnX10_sheet weX10_sheet wi0 nh0.1 nh0.2
set_option maxRecDepth 20000 in
theorem wlRL_124 : Cond.methodLink RL 124 yX11_sheet ∈ tbG := tbk5 171 rfl rfl
theorem okRL_124 : okV RL 124 MX11_sheet := okV.of wcX11_sheet wlRL_124 wnX11_sheet weX11_sheet wi12 nh12.1 nh12.2
set_option maxRecDepth 20000 in
theorem wlRL_125 : Cond.methodLink RL 125 yX10_lose ∈ tbG := tbk4 198 rfl rfl
theorem okRL_125 : okV RL 125 MX10_lose := okV.of wcX10_lose wlRL_125 wnX10_lose weX10_lose wi0 nh0.1 nh0.2
set_option maxRecDepth 20000 in
theorem wlRL_128 : Cond.methodLink RL 128 yX11_lose ∈ tbG := tbk5 187 rfl rfl
theorem okRL_128 : okV RL 128 MX11_lose := okV.of wcX11_lose wlRL_128 wnX11_lose weX11_lose wi12 nh12.1 nh12.2
set_option maxRecDepth 20000 in
theorem wlRL_129 : Cond.methodLink RL 129 yX10_lay ∈ tbG := tbk4 206 rfl rfl
theorem okRL_129 : okV RL 129 MX10_lay := okV.of wcX10_lay wlRL_129 wnX10_lay weX10_lay wi0 nh0.1 nh0.2
set_option maxRecDepth 20000 in
theorem wlRL_132 : Cond.methodLink RL 132 yX11_lay ∈ tbG := tbk5 191 rfl rfl
theorem okRL_132 : okV RL 132 MX11_lay := okV.of wcX11_lay wlRL_132 wnX11_lay weX11_lay wi12 nh12.1 nh12.2
set_option maxRecDepth 20000 in
theorem wlRL_133 : Cond.methodLink RL 133 yX10_get ∈ tbG := tbk4 219 rfl rfl
theorem okRL_133 : okV RL 133 MX10_get := okV.of wcX10_get wlRL_133 wnX10_get weX10_get wi0 nh0.1 nh0.2
set_option maxRecDepth 20000 in
theorem wlRL_136 : Cond.methodLink RL 136 yX11_get ∈ tbG := tbk5 202 rfl rfl
theorem okRL_136 : okV RL 136 MX11_get := okV.of wcX11_get wlRL_136 wnX11_get weX11_get wi12 nh12.1 nh12.2
set_option maxRecDepth 20000 in
theorem wlRL_137 : Cond.methodLink RL 137 yX10_copy ∈ tbG := tbk4 224 rfl rfl
theorem okRL_137 : okV RL 137 MX10_copy := okV.of wcX10_copy wlRL_137 wnX10_copy weX10_copy wi0 nh0.1 nh0.2
set_option maxRecDepth 20000 in
theorem wlRL_140 : Cond.methodLink RL 140 yX11_copy ∈ tbG := tbk5 207 rfl rfl
theorem okRL_140 : okV RL 140 MX11_copy := okV.of wcX11_copy wlRL_140 wnX11_copy weX11_copy wi12 nh12.1 nh12.2
set_option maxRecDepth 20000 in
theorem wlRL_141 : Cond.methodLink RL 141 yX10_write ∈ tbG := tbk5 1 rfl rfl
theorem okRL_141 : okV RL 141 MX10_write := okV.of wcX10_write wlRL_141 wnX10_write weX10_write wi0 nh0.1 nh0.2
set_option maxRecDepth 20000 in
theorem wlRL_144 : Cond.methodLink RL 144 yX11_write ∈ tbG := tbk7 52 rfl rfl
theorem okRL_144 : okV RL 144 MX11_write := okV.of wcX11_write wlRL_144 wnX11_write weX11_write wi12 nh12.1 nh12.2
set_option maxRecDepth 20000 in
theorem wlRL_145 : Cond.methodLink RL 145 yX10_count ∈ tbG := tbk5 6 rfl rfl
theorem okRL_145 : okV RL 145 MX10_count := okV.of wcX10_count wlRL_145 wnX10_count weX10_count wi0 nh0.1 nh0.2
set_option maxRecDepth 20000 in
theorem wlRL_148 : Cond.methodLink RL 148 yX11_count ∈ tbG := tbk7 56 rfl rfl
theorem okRL_148 : okV RL 148 MX11_count := okV.of wcX11_count wlRL_148 wnX11_count weX11_count wi12 nh12.1 nh12.2
set_option maxRecDepth 20000 in
theorem wlRL_149 : Cond.methodLink RL 149 yX10_digest ∈ tbG := tbk5 24 rfl rfl
theorem okRL_149 : okV RL 149 MX10_digest := okV.of wcX10_digest wlRL_149 wnX10_digest weX10_digest wi0 nh0.1 nh0.2
set_option maxRecDepth 20000 in
theorem wlRL_153 : Cond.methodLink RL 153 yX11_digest ∈ tbG := tbk7 60 rfl rfl
theorem okRL_153 : okV RL 153 MX11_digest := okV.of wcX11_digest wlRL_153 wnX11_digest weX11_digest wi12 nh12.1 nh12.2
set_option maxRecDepth 20000 in
theorem wlRX11_86 : Cond.methodLink RX11 86 yX11_in ∈ tbG := tbk5 179 rfl rfl
theorem okRX11_86 : okS RX11 86 MX11_in := ⟨wcX11_in, wlRX11_86, wsX11_in, wi12, nh12.1, nh12.2⟩
set_option maxRecDepth 20000 in
theorem wlRX11_98 : Cond.methodLink RX11 98 yX11_isSheet ∈ tbG := tbk5 175 rfl rfl
theorem okRX11_98 : okS RX11 98 MX11_isSheet := ⟨wcX11_isSheet, wlRX11_98, wsX11_isSheet, wi12, nh12.1, nh12.2⟩
set_option maxRecDepth 20000 in
theorem wlRX11_104 : Cond.methodLink RX11 104 yX11_met ∈ tbG := tbk5 183 rfl rfl
theorem okRX11_104 : okV RX11 104 MX11_met := okV.of wcX11_met wlRX11_104 wnX11_met weX11_met wi12 nh12.1 nh12.2
set_option maxRecDepth 20000 in
theorem wlRX11_108 : Cond.methodLink RX11 108 yX11_lacks ∈ tbG := tbk5 195 rfl rfl
theorem okRX11_108 : okV RX11 108 MX11_lacks := okV.of wcX11_lacks wlRX11_108 wnX11_lacks weX11_lacks wi12 nh12.1 nh12.2
set_option maxRecDepth 20000 in
theorem wlRX11_112 : Cond.methodLink RX11 112 yX11_cut ∈ tbG := tbk5 199 rfl rfl
theorem okRX11_112 : okS RX11 112 MX11_cut := ⟨wcX11_cut, wlRX11_112, wsX11_cut, wi12, nh12.1, nh12.2⟩
set_option maxRecDepth 20000 in
theorem wlRX11_117 : Cond.methodLink RX11 117 yX11_isText ∈ tbG := tbk5 215 rfl rfl
theorem okRX11_117 : okS RX11 117 MX11_isText := ⟨wcX11_isText, wlRX11_117, wsX11_isText, wi12, nh12.1, nh12.2⟩
set_option maxRecDepth 20000 in
theorem wlRX11_122 : Cond.methodLink RX11 122 yX11_from ∈ tbG := tbk5 219 rfl rfl
theorem okRX11_122 : okS RX11 122 MX11_from := ⟨wcX11_from, wlRX11_122, wsX11_from, wi12, nh12.1, nh12.2⟩
set_option maxRecDepth 20000 in
theorem wlRX11_134 : Cond.methodLink RX11 134 yX11_here ∈ tbG := tbk6 6 rfl rfl
theorem okRX11_134 : okV RX11 134 MX11_here := okV.of wcX11_here wlRX11_134 wnX11_here weX11_here wi12 nh12.1 nh12.2
set_option maxRecDepth 20000 in
theorem wlRX11_144 : Cond.methodLink RX11 144 yX11_readsRoom ∈ tbG := tbk6 10 rfl rfl
theorem okRX11_144 : okV RX11 144 MX11_readsRoom := okV.of wcX11_readsRoom wlRX11_144 wnX11_readsRoom weX11_readsRoom wi12 nh12.1 nh12.2
set_option maxRecDepth 20000 in
theorem wlRX11_148 : Cond.methodLink RX11 148 yX11_isTown ∈ tbG := tbk6 17 rfl rfl
theorem okRX11_148 : okS RX11 148 MX11_isTown := ⟨wcX11_isTown, wlRX11_148, wsX11_isTown, wi12, nh12.1, nh12.2⟩
set_option maxRecDepth 20000 in
theorem wlRX11_151 : Cond.methodLink RX11 151 yX11_clears ∈ tbG := tbk5 238 rfl rfl
theorem okRX11_151 : okV RX11 151 MX11_clears := okV.of wcX11_clears wlRX11_151 wnX11_clears weX11_clears wi12 nh12.1 nh12.2
set_option maxRecDepth 20000 in
theorem wlRX11_154 : Cond.methodLink RX11 154 yX11_readsPart ∈ tbG := tbk6 2 rfl rfl
theorem okRX11_154 : okV RX11 154 MX11_readsPart := okV.of wcX11_readsPart wlRX11_154 wnX11_readsPart weX11_readsPart wi12 nh12.1 nh12.2
set_option maxRecDepth 20000 in
theorem wlRX11_157 : Cond.methodLink RX11 157 yX11_readsLand ∈ tbG := tbk5 234 rfl rfl
theorem okRX11_157 : okV RX11 157 MX11_readsLand := okV.of wcX11_readsLand wlRX11_157 wnX11_readsLand weX11_readsLand wi12 nh12.1 nh12.2
set_option maxRecDepth 20000 in
theorem wlRX11_160 : Cond.methodLink RX11 160 yX11_letterOf ∈ tbG := tbk6 21 rfl rfl
theorem okRX11_160 : okV RX11 160 MX11_letterOf := okV.of wcX11_letterOf wlRX11_160 wnX11_letterOf weX11_letterOf wi12 nh12.1 nh12.2
set_option maxRecDepth 20000 in
theorem wlRX11_163 : Cond.methodLink RX11 163 yX11_faultOf ∈ tbG := tbk5 230 rfl rfl
theorem okRX11_163 : okV RX11 163 MX11_faultOf := okV.of wcX11_faultOf wlRX11_163 wnX11_faultOf weX11_faultOf wi12 nh12.1 nh12.2
set_option maxRecDepth 20000 in
theorem wlRX11_166 : Cond.methodLink RX11 166 yX11_start ∈ tbG := tbk6 84 rfl rfl
theorem okRX11_166 : okV RX11 166 MX11_start := okV.of wcX11_start wlRX11_166 wnX11_start weX11_start wi12 nh12.1 nh12.2
set_option maxRecDepth 20000 in
theorem wlRX11_172 : Cond.methodLink RX11 172 yX11_isShut ∈ tbG := tbk6 29 rfl rfl
theorem okRX11_172 : okV RX11 172 MX11_isShut := okV.of wcX11_isShut wlRX11_172 wnX11_isShut weX11_isShut wi12 nh12.1 nh12.2
set_option maxRecDepth 20000 in
theorem wlRX11_177 : Cond.methodLink RX11 177 yX11_back ∈ tbG := tbk6 65 rfl rfl
theorem okRX11_177 : okS RX11 177 MX11_back := ⟨wcX11_back, wlRX11_177, wsX11_back, wi12, nh12.1, nh12.2⟩
set_option maxRecDepth 20000 in
theorem wlRX11_183 : Cond.methodLink RX11 183 yX11_lengthOf ∈ tbG := tbk6 53 rfl rfl
theorem okRX11_183 : okV RX11 183 MX11_lengthOf := okV.of wcX11_lengthOf wlRX11_183 wnX11_lengthOf weX11_lengthOf wi12 nh12.1 nh12.2
set_option maxRecDepth 20000 in
theorem wlRX11_186 : Cond.methodLink RX11 186 yX11_letterAt ∈ tbG := tbk6 57 rfl rfl
theorem okRX11_186 : okV RX11 186 MX11_letterAt := okV.of wcX11_letterAt wlRX11_186 wnX11_letterAt weX11_letterAt wi12 nh12.1 nh12.2
set_option maxRecDepth 20000 in
theorem wlRX11_189 : Cond.methodLink RX11 189 yX11_stamp ∈ tbG := tbk6 61 rfl rfl
theorem okRX11_189 : okV RX11 189 MX11_stamp := okV.of wcX11_stamp wlRX11_189 wnX11_stamp weX11_stamp wi12 nh12.1 nh12.2
set_option maxRecDepth 20000 in
theorem wlRX11_193 : Cond.methodLink RX11 193 yX11_isWay ∈ tbG := tbk6 46 rfl rfl
theorem okRX11_193 : okS RX11 193 MX11_isWay := ⟨wcX11_isWay, wlRX11_193, wsX11_isWay, wi12, nh12.1, nh12.2⟩
set_option maxRecDepth 20000 in
theorem wlRX11_196 : Cond.methodLink RX11 196 yX11_findPaper ∈ tbG := tbk6 49 rfl rfl
theorem okRX11_196 : okV RX11 196 MX11_findPaper := okV.of wcX11_findPaper wlRX11_196 wnX11_findPaper weX11_findPaper wi12 nh12.1 nh12.2
set_option maxRecDepth 20000 in
theorem wlRX11_199 : Cond.methodLink RX11 199 yX11_byteOf ∈ tbG := tbk6 68 rfl rfl
theorem okRX11_199 : okS RX11 199 MX11_byteOf := ⟨wcX11_byteOf, wlRX11_199, wsX11_byteOf, wi12, nh12.1, nh12.2⟩
set_option maxRecDepth 20000 in
theorem wlRX11_202 : Cond.methodLink RX11 202 yX11_end ∈ tbG := tbk6 88 rfl rfl
theorem okRX11_202 : okV RX11 202 MX11_end := okV.of wcX11_end wlRX11_202 wnX11_end weX11_end wi12 nh12.1 nh12.2
set_option maxRecDepth 20000 in
theorem wlRX11_205 : Cond.methodLink RX11 205 yX11_isBegun ∈ tbG := tbk6 75 rfl rfl
theorem okRX11_205 : okV RX11 205 MX11_isBegun := okV.of wcX11_isBegun wlRX11_205 wnX11_isBegun weX11_isBegun wi12 nh12.1 nh12.2
set_option maxRecDepth 20000 in
theorem wlRX11_210 : Cond.methodLink RX11 210 yX11_judgedOf ∈ tbG := tbk6 80 rfl rfl
theorem okRX11_210 : okV RX11 210 MX11_judgedOf := okV.of wcX11_judgedOf wlRX11_210 wnX11_judgedOf weX11_judgedOf wi12 nh12.1 nh12.2
set_option maxRecDepth 20000 in
theorem wlRX11_214 : Cond.methodLink RX11 214 yX11_alike ∈ tbG := tbk6 100 rfl rfl
theorem okRX11_214 : okV RX11 214 MX11_alike := okV.of wcX11_alike wlRX11_214 wnX11_alike weX11_alike wi12 nh12.1 nh12.2
set_option maxRecDepth 20000 in
theorem wlRX11_217 : Cond.methodLink RX11 217 yX11_sameOf ∈ tbG := tbk6 96 rfl rfl
theorem okRX11_217 : okV RX11 217 MX11_sameOf := okV.of wcX11_sameOf wlRX11_217 wnX11_sameOf weX11_sameOf wi12 nh12.1 nh12.2
set_option maxRecDepth 20000 in
theorem wlRX11_220 : Cond.methodLink RX11 220 yX11_isUnseen ∈ tbG := tbk6 127 rfl rfl
theorem okRX11_220 : okV RX11 220 MX11_isUnseen := okV.of wcX11_isUnseen wlRX11_220 wnX11_isUnseen weX11_isUnseen wi12 nh12.1 nh12.2
set_option maxRecDepth 20000 in
theorem wlRX11_226 : Cond.methodLink RX11 226 yX11_findUnseen ∈ tbG := tbk6 123 rfl rfl
theorem okRX11_226 : okV RX11 226 MX11_findUnseen := okV.of wcX11_findUnseen wlRX11_226 wnX11_findUnseen weX11_findUnseen wi12 nh12.1 nh12.2
set_option maxRecDepth 20000 in
theorem wlRX11_229 : Cond.methodLink RX11 229 yX11_findBetween ∈ tbG := tbk6 131 rfl rfl
theorem okRX11_229 : okV RX11 229 MX11_findBetween := okV.of wcX11_findBetween wlRX11_229 wnX11_findBetween weX11_findBetween wi12 nh12.1 nh12.2
set_option maxRecDepth 20000 in
theorem wlRX11_243 : Cond.methodLink RX11 243 yX11_goesOn ∈ tbG := tbk6 135 rfl rfl
theorem okRX11_243 : okV RX11 243 MX11_goesOn := okV.of wcX11_goesOn wlRX11_243 wnX11_goesOn weX11_goesOn wi12 nh12.1 nh12.2
set_option maxRecDepth 20000 in
theorem wlRX11_246 : Cond.methodLink RX11 246 yX11_findShortest ∈ tbG := tbk6 119 rfl rfl
theorem okRX11_246 : okV RX11 246 MX11_findShortest := okV.of wcX11_findShortest wlRX11_246 wnX11_findShortest weX11_findShortest wi12 nh12.1 nh12.2
set_option maxRecDepth 20000 in
theorem wlRX11_252 : Cond.methodLink RX11 252 yX11_isAsked ∈ tbG := tbk6 108 rfl rfl
theorem okRX11_252 : okV RX11 252 MX11_isAsked := okV.of wcX11_isAsked wlRX11_252 wnX11_isAsked weX11_isAsked wi12 nh12.1 nh12.2
set_option maxRecDepth 20000 in
theorem wlRX11_256 : Cond.methodLink RX11 256 yX11_isTwo ∈ tbG := tbk6 112 rfl rfl
theorem okRX11_256 : okS RX11 256 MX11_isTwo := ⟨wcX11_isTwo, wlRX11_256, wsX11_isTwo, wi12, nh12.1, nh12.2⟩
set_option maxRecDepth 20000 in
theorem wlRX11_259 : Cond.methodLink RX11 259 yX11_shortestOf ∈ tbG := tbk6 115 rfl rfl
theorem okRX11_259 : okV RX11 259 MX11_shortestOf := okV.of wcX11_shortestOf wlRX11_259 wnX11_shortestOf weX11_shortestOf wi12 nh12.1 nh12.2
set_option maxRecDepth 20000 in
theorem wlRX11_263 : Cond.methodLink RX11 263 yX11_no ∈ tbG := tbk6 140 rfl rfl
theorem okRX11_263 : okS RX11 263 MX11_no := ⟨wcX11_no, wlRX11_263, wsX11_no, wi12, nh12.1, nh12.2⟩
set_option maxRecDepth 20000 in
theorem wlRX11_267 : Cond.methodLink RX11 267 yX11_leastUnseen ∈ tbG := tbk6 148 rfl rfl
theorem okRX11_267 : okV RX11 267 MX11_leastUnseen := okV.of wcX11_leastUnseen wlRX11_267 wnX11_leastUnseen weX11_leastUnseen wi12 nh12.1 nh12.2
set_option maxRecDepth 20000 in
theorem wlRX11_270 : Cond.methodLink RX11 270 yX11_findErrands ∈ tbG := tbk6 160 rfl rfl
theorem okRX11_270 : okV RX11 270 MX11_findErrands := okV.of wcX11_findErrands wlRX11_270 wnX11_findErrands weX11_findErrands wi12 nh12.1 nh12.2
set_option maxRecDepth 20000 in
theorem wlRX11_274 : Cond.methodLink RX11 274 yX11_stampsTo ∈ tbG := tbk6 164 rfl rfl
theorem okRX11_274 : okV RX11 274 MX11_stampsTo := okV.of wcX11_stampsTo wlRX11_274 wnX11_stampsTo weX11_stampsTo wi12 nh12.1 nh12.2
set_option maxRecDepth 20000 in
theorem wlRX11_277 : Cond.methodLink RX11 277 yX11_errandsOf ∈ tbG := tbk6 156 rfl rfl
theorem okRX11_277 : okV RX11 277 MX11_errandsOf := okV.of wcX11_errandsOf wlRX11_277 wnX11_errandsOf weX11_errandsOf wi12 nh12.1 nh12.2
set_option maxRecDepth 20000 in
theorem wlRX11_280 : Cond.methodLink RX11 280 yX11_cleanOf ∈ tbG := tbk6 172 rfl rfl
theorem okRX11_280 : okV RX11 280 MX11_cleanOf := okV.of wcX11_cleanOf wlRX11_280 wnX11_cleanOf weX11_cleanOf wi12 nh12.1 nh12.2
set_option maxRecDepth 20000 in
theorem wlRX11_283 : Cond.methodLink RX11 283 yX11_foundOf ∈ tbG := tbk6 180 rfl rfl
theorem okRX11_283 : okV RX11 283 MX11_foundOf := okV.of wcX11_foundOf wlRX11_283 wnX11_foundOf weX11_foundOf wi12 nh12.1 nh12.2
set_option maxRecDepth 20000 in
theorem wlRX11_286 : Cond.methodLink RX11 286 yX11_closedBy ∈ tbG := tbk6 197 rfl rfl
theorem okRX11_286 : okV RX11 286 MX11_closedBy := okV.of wcX11_closedBy wlRX11_286 wnX11_closedBy weX11_closedBy wi12 nh12.1 nh12.2
set_option maxRecDepth 20000 in
theorem wlRX11_289 : Cond.methodLink RX11 289 yX11_index ∈ tbG := tbk6 201 rfl rfl
theorem okRX11_289 : okS RX11 289 MX11_index := ⟨wcX11_index, wlRX11_289, wsX11_index, wi12, nh12.1, nh12.2⟩
set_option maxRecDepth 20000 in
theorem wlRX11_292 : Cond.methodLink RX11 292 yX11_findClosed ∈ tbG := tbk6 193 rfl rfl
theorem okRX11_292 : okV RX11 292 MX11_findClosed := okV.of wcX11_findClosed wlRX11_292 wnX11_findClosed weX11_findClosed wi12 nh12.1 nh12.2
set_option maxRecDepth 20000 in
theorem wlRX11_295 : Cond.methodLink RX11 295 yX11_follows ∈ tbG := tbk6 204 rfl rfl
theorem okRX11_295 : okV RX11 295 MX11_follows := okV.of wcX11_follows wlRX11_295 wnX11_follows weX11_follows wi12 nh12.1 nh12.2
set_option maxRecDepth 20000 in
theorem wlRX11_300 : Cond.methodLink RX11 300 yX11_manyOf ∈ tbG := tbk6 189 rfl rfl
theorem okRX11_300 : okV RX11 300 MX11_manyOf := okV.of wcX11_manyOf wlRX11_300 wnX11_manyOf weX11_manyOf wi12 nh12.1 nh12.2
set_option maxRecDepth 20000 in
theorem wlRX11_307 : Cond.methodLink RX11 307 yX11_lists ∈ tbG := tbk6 212 rfl rfl
theorem okRX11_307 : okV RX11 307 MX11_lists := okV.of wcX11_lists wlRX11_307 wnX11_lists weX11_lists wi12 nh12.1 nh12.2
set_option maxRecDepth 20000 in
theorem wlRX11_313 : Cond.methodLink RX11 313 yX11_listedAt ∈ tbG := tbk6 229 rfl rfl
theorem okRX11_313 : okV RX11 313 MX11_listedAt := okV.of wcX11_listedAt wlRX11_313 wnX11_listedAt weX11_listedAt wi12 nh12.1 nh12.2
set_option maxRecDepth 20000 in
theorem wlRX11_318 : Cond.methodLink RX11 318 yX11_arePlaces ∈ tbG := tbk6 237 rfl rfl
theorem okRX11_318 : okS RX11 318 MX11_arePlaces := ⟨wcX11_arePlaces, wlRX11_318, wsX11_arePlaces, wi12, nh12.1, nh12.2⟩
set_option maxRecDepth 20000 in
theorem wlRX11_321 : Cond.methodLink RX11 321 yX11_letsBy ∈ tbG := tbk7 1 rfl rfl
theorem okRX11_321 : okV RX11 321 MX11_letsBy := okV.of wcX11_letsBy wlRX11_321 wnX11_letsBy weX11_letsBy wi12 nh12.1 nh12.2
set_option maxRecDepth 20000 in
theorem wlRX11_324 : Cond.methodLink RX11 324 yX11_slipsOf ∈ tbG := tbk7 9 rfl rfl
theorem okRX11_324 : okV RX11 324 MX11_slipsOf := okV.of wcX11_slipsOf wlRX11_324 wnX11_slipsOf weX11_slipsOf wi12 nh12.1 nh12.2
set_option maxRecDepth 20000 in
theorem wlRX11_327 : Cond.methodLink RX11 327 yX11_ones ∈ tbG := tbk7 21 rfl rfl
theorem okRX11_327 : okS RX11 327 MX11_ones := ⟨wcX11_ones, wlRX11_327, wsX11_ones, wi12, nh12.1, nh12.2⟩
set_option maxRecDepth 20000 in
theorem wlRX11_330 : Cond.methodLink RX11 330 yX11_fewestNow ∈ tbG := tbk7 17 rfl rfl
theorem okRX11_330 : okV RX11 330 MX11_fewestNow := okV.of wcX11_fewestNow wlRX11_330 wnX11_fewestNow weX11_fewestNow wi12 nh12.1 nh12.2
set_option maxRecDepth 20000 in
theorem wlRX11_333 : Cond.methodLink RX11 333 yX11_joins ∈ tbG := tbk7 36 rfl rfl
theorem okRX11_333 : okV RX11 333 MX11_joins := okV.of wcX11_joins wlRX11_333 wnX11_joins weX11_joins wi12 nh12.1 nh12.2
set_option maxRecDepth 20000 in
theorem wlRX11_336 : Cond.methodLink RX11 336 yX11_findFar ∈ tbG := tbk7 32 rfl rfl
theorem okRX11_336 : okV RX11 336 MX11_findFar := okV.of wcX11_findFar wlRX11_336 wnX11_findFar weX11_findFar wi12 nh12.1 nh12.2
set_option maxRecDepth 20000 in
theorem wlRX11_340 : Cond.methodLink RX11 340 yX11_farOf ∈ tbG := tbk7 28 rfl rfl
theorem okRX11_340 : okV RX11 340 MX11_farOf := okV.of wcX11_farOf wlRX11_340 wnX11_farOf weX11_farOf wi12 nh12.1 nh12.2
set_option maxRecDepth 20000 in
theorem wlRX11_343 : Cond.methodLink RX11 343 yX11_changed ∈ tbG := tbk7 44 rfl rfl
theorem okRX11_343 : okV RX11 343 MX11_changed := okV.of wcX11_changed wlRX11_343 wnX11_changed weX11_changed wi12 nh12.1 nh12.2
set_option maxRecDepth 20000 in
theorem wlRX11_350 : Cond.methodLink RX11 350 yX11_count ∈ tbG := tbk7 66 rfl rfl
theorem okRX11_350 : okV RX11 350 MX11_count := okV.of wcX11_count wlRX11_350 wnX11_count weX11_count wi12 nh12.1 nh12.2
set_option maxRecDepth 20000 in
theorem wnat : Cond.native arraycopyName ∈ tbG := tbk3 133 rfl rfl
set_option maxRecDepth 20000 in
theorem wsac : Cond.static arraycopyName ∈ tbG := tbk3 132 rfl rfl
theorem wiac : Cond.initialized "java/lang/System" ∈ tbG := wi15
set_option maxRecDepth 20000 in
theorem wkRX10_306 : Cond.constant RX10 306 (-2147483648) ∈ tbG := tbk4 223 rfl rfl
set_option maxRecDepth 20000 in
theorem wkRX11_116 : Cond.constant RX11 116 (-2147483648) ∈ tbG := tbk5 206 rfl rfl
set_option maxRecDepth 20000 in
theorem wkRJ6_265 : Cond.constant RJ6 265 (1431655765) ∈ tbG := tbk4 142 rfl rfl
set_option maxRecDepth 20000 in
theorem wkRJ6_266 : Cond.constant RJ6 266 (858993459) ∈ tbG := tbk4 143 rfl rfl
set_option maxRecDepth 20000 in
theorem wkRJ6_267 : Cond.constant RJ6 267 (252645135) ∈ tbG := tbk4 144 rfl rfl
set_option maxRecDepth 20000 in
theorem wkRX10_332 : Cond.constantLong RX10 332 (17) ∈ tbG := tbk5 28 rfl rfl
set_option maxRecDepth 20000 in
theorem wkRX10_334 : Cond.constantLong RX10 334 (31) ∈ tbG := tbk5 29 rfl rfl
set_option maxRecDepth 20000 in
theorem wkRX10_395 : Cond.constantLong RX10 395 (-9223372036854775808) ∈ tbG := tbk3 38 rfl rfl
set_option maxRecDepth 20000 in
theorem wkRX11_84 : Cond.constantLong RX11 84 (-9223372036854775808) ∈ tbG := tbk6 143 rfl rfl
set_option maxRecDepth 20000 in
theorem wkRX11_90 : Cond.constantLong RX11 90 (7) ∈ tbG := tbk6 20 rfl rfl
set_option maxRecDepth 20000 in
theorem wkRX11_96 : Cond.constantLong RX11 96 (3) ∈ tbG := tbk5 178 rfl rfl
set_option maxRecDepth 20000 in
theorem wkRX11_102 : Cond.constantLong RX11 102 (2) ∈ tbG := tbk5 182 rfl rfl
set_option maxRecDepth 20000 in
theorem wkRX11_120 : Cond.constantLong RX11 120 (255) ∈ tbG := tbk5 218 rfl rfl
set_option maxRecDepth 20000 in
theorem wkRX11_138 : Cond.constantLong RX11 138 (48) ∈ tbG := tbk6 14 rfl rfl
set_option maxRecDepth 20000 in
theorem wkRX11_140 : Cond.constantLong RX11 140 (57) ∈ tbG := tbk6 15 rfl rfl
set_option maxRecDepth 20000 in
theorem wkRX11_142 : Cond.constantLong RX11 142 (11) ∈ tbG := tbk6 16 rfl rfl
set_option maxRecDepth 20000 in
theorem wkRX11_175 : Cond.constantLong RX11 175 (511) ∈ tbG := tbk6 41 rfl rfl
set_option maxRecDepth 20000 in
theorem wkRX11_208 : Cond.constantLong RX11 208 (4) ∈ tbG := tbk6 79 rfl rfl
set_option maxRecDepth 20000 in
theorem wkRX11_250 : Cond.constantLong RX11 250 (-1) ∈ tbG := tbk6 139 rfl rfl
set_option maxRecDepth 20000 in
theorem wkRX11_298 : Cond.constantLong RX11 298 (12) ∈ tbG := tbk6 188 rfl rfl
set_option maxRecDepth 20000 in
theorem wkRX11_311 : Cond.constantLong RX11 311 (10) ∈ tbG := tbk6 228 rfl rfl
set_option maxRecDepth 20000 in
theorem wkRX11_316 : Cond.constantLong RX11 316 (2047) ∈ tbG := tbk7 0 rfl rfl
set_option maxRecDepth 20000 in
theorem wkRX11_346 : Cond.constantLong RX11 346 (17) ∈ tbG := tbk7 64 rfl rfl
set_option maxRecDepth 20000 in
theorem wkRX11_348 : Cond.constantLong RX11 348 (31) ∈ tbG := tbk7 65 rfl rfl
end
section
section XY
variable {E : EV} {M M' : MT} {Q : Po} {pc : Nat} {ls : List (Nat × Value)} {st : List Value} {μ : Mem} {a j N : Nat} {i : Int32}
theorem y_iald (ha : kd a = 20) (hN : ln a = N) (hi : vp_in i N) (hj : i.toNatClampNeg = j) (hd : decode M.2.1 pc = .ok (.iaload, 1)) (h : Ex E M Q (pc + 1) ls (.int (μ.1 a j) :: st) μ) : Ex E M Q pc ls (.int i :: .ref a :: st) μ := by
  subst hN hj; exact x_iald ha hi hd h
theorem y_zald (ha : kd a = 22) (hN : ln a = N) (hi : vp_in i N) (hj : i.toNatClampNeg = j) (hd : decode M.2.1 pc = .ok (.baload, 1)) (h : Ex E M Q (pc + 1) ls (.int (μ.1 a j) :: st) μ) : Ex E M Q pc ls (.int i :: .ref a :: st) μ := by
  subst hN hj; exact x_zald ha hi hd h
theorem y_lald (ha : kd a = 21) (hN : ln a = N) (hi : vp_in i N) (hj : i.toNatClampNeg = j) (hd : decode M.2.1 pc = .ok (.laload, 1)) (h : Ex E M Q (pc + 1) ls (.long (μ.2 a j) :: st) μ) : Ex E M Q pc ls (.int i :: .ref a :: st) μ := by
  subst hN hj; exact x_lald ha hi hd h
theorem y_iast {x : Int32} (ha : kd a = 20) (hN : ln a = N) (hi : vp_in i N) (hj : i.toNatClampNeg = j) (hd : decode M.2.1 pc = .ok (.iastore, 1)) (h : Ex E M Q (pc + 1) ls st (mI μ a j x)) : Ex E M Q pc ls (.int x :: .int i :: .ref a :: st) μ := by
  subst hN hj; exact x_iast ha hi hd h
theorem nar_b {x : Int32} (h : x = 0 ∨ x = 1) : narrow .boolean (.int x) = .int x := by rcases h with rfl | rfl <;> rfl
theorem vnar_b {x : Int32} (h : x = 0 ∨ x = 1) : vp_nar .boolean x = x := by rcases h with rfl | rfl <;> rfl
theorem y_zast {x : Int32} (ha : kd a = 22) (hN : ln a = N) (hi : vp_in i N) (hj : i.toNatClampNeg = j) (hx : x = 0 ∨ x = 1) (hd : decode M.2.1 pc = .ok (.bastore, 1)) (h : Ex E M Q (pc + 1) ls st (mI μ a j x)) : Ex E M Q pc ls (.int x :: .int i :: .ref a :: st) μ := by
  subst hN hj; exact x_zast ha hi (vnar_b hx) hd h
theorem y_last {x : Int64} (ha : kd a = 21) (hN : ln a = N) (hi : vp_in i N) (hj : i.toNatClampNeg = j) (hd : decode M.2.1 pc = .ok (.lastore, 1)) (h : Ex E M Q (pc + 1) ls st (mJ μ a j x)) : Ex E M Q pc ls (.long x :: .int i :: .ref a :: st) μ := by
  subst hN hj; exact x_last ha hi hd h
theorem x_istoreG {i : Nat} {x : Int32} {l' : List (Nat × Value)} (ks : List Nat) (hk : lv_pick (st1 i (.int x) ls) ks = l') (hn : i < M.2.2.1) (hd : decode M.2.1 pc = .ok (.istore i, 2)) (h : Ex E M Q (pc + 2) l' st μ) : Ex E M Q pc ls (.int x :: st) μ := by
  intro p e s m args below meth c hc H locs lr hl hP hS
  exact lv_istore hc.1 hc.2.1 hd hl hn (st1_sh _ i (.int x) ls) (fun lr hl => h p e s m args below meth c hc H locs lr (xl_sub hl ks hk) hP hS)
theorem x_lstoreG {i : Nat} {x : Int64} {l' : List (Nat × Value)} (ks : List Nat) (hk : lv_pick (st2 i (.long x) ls) ks = l') (hn : i + 1 < M.2.2.1) (hd : decode M.2.1 pc = .ok (.lstore i, 2)) (h : Ex E M Q (pc + 2) l' st μ) : Ex E M Q pc ls (.long x :: st) μ := by
  intro p e s m args below meth c hc H locs lr hl hP hS
  exact lv_lstore hc.1 hc.2.1 hd hl hn (st2_sh _ i (.long x) ls) (fun lr hl => h p e s m args below meth c hc H locs lr (xl_sub hl ks hk) hP hS)
theorem rf_arr {k : Nat} (h : kd a = k) (h1 : 24 ≤ k) (j : Nat) : rf a j = a + 1 + j := by
  unfold rf
  rw [if_neg (by omega), if_neg (by omega)]
theorem rf_txt (h : kd a = 23) (j : Nat) : rf a j = 115 + 2 * j := by
  unfold rf
  rw [if_pos h]
theorem y_aaldI {b : Nat} (ha : kd a = 24) (hN : ln a = N) (hi : vp_in i N) (hb : a + 1 + i.toNatClampNeg = b) (hd : decode M.2.1 pc = .ok (.aaload, 1)) (h : Ex E M Q (pc + 1) ls (.ref b :: st) μ) : Ex E M Q pc ls (.int i :: .ref a :: st) μ := by
  subst hN hb; exact x_aald (t := 1) (ty := .array .int) ha rfl rfl hi (rf_arr ha (by omega) _) hd h
theorem y_aaldJ {b : Nat} (ha : kd a = 25) (hN : ln a = N) (hi : vp_in i N) (hb : a + 1 + i.toNatClampNeg = b) (hd : decode M.2.1 pc = .ok (.aaload, 1)) (h : Ex E M Q (pc + 1) ls (.ref b :: st) μ) : Ex E M Q pc ls (.int i :: .ref a :: st) μ := by
  subst hN hb; exact x_aald (t := 2) (ty := .array .long) ha rfl rfl hi (rf_arr ha (by omega) _) hd h
theorem y_aaldT {b : Nat} (ha : kd a = 23) (hN : ln a = N) (hi : vp_in i N) (hb : 115 + 2 * i.toNatClampNeg = b) (hd : decode M.2.1 pc = .ok (.aaload, 1)) (h : Ex E M Q (pc + 1) ls (.ref b :: st) μ) : Ex E M Q pc ls (.int i :: .ref a :: st) μ := by
  subst hN hb; exact x_aald (t := 0) (ty := .object "StampsCancel$Text") ha rfl rfl hi (rf_txt ha _) hd h
end XY
theorem k0 : kd 0 = 10 := by decide +kernel
theorem l0 : ln 0 = 12 := by decide +kernel
theorem k1 : kd 1 = 3 := by decide +kernel
theorem l1 : ln 1 = 6 := by decide +kernel
theorem k2 : kd 2 = 20 := by decide +kernel
theorem l2 : ln 2 = 18 := by decide +kernel
theorem k3 : kd 3 = 23 := by decide +kernel
theorem l3 : ln 3 = 4 := by decide +kernel
theorem k4 : kd 4 = 5 := by decide +kernel
theorem l4 : ln 4 = 2 := by decide +kernel
theorem k5 : kd 5 = 20 := by decide +kernel
theorem l5 : ln 5 = 60 := by decide +kernel
theorem k6 : kd 6 = 5 := by decide +kernel
theorem l6 : ln 6 = 2 := by decide +kernel
theorem k7 : kd 7 = 20 := by decide +kernel
theorem l7 : ln 7 = 60 := by decide +kernel
theorem k8 : kd 8 = 2 := by decide +kernel
theorem l8 : ln 8 = 6 := by decide +kernel
theorem k9 : kd 9 = 5 := by decide +kernel
theorem l9 : ln 9 = 2 := by decide +kernel
theorem k10 : kd 10 = 20 := by decide +kernel
theorem l10 : ln 10 = 60 := by decide +kernel
theorem k11 : kd 11 = 6 := by decide +kernel
theorem l11 : ln 11 = 6 := by decide +kernel
theorem k12 : kd 12 = 0 := by decide +kernel
theorem l12 : ln 12 = 3 := by decide +kernel
theorem k13 : kd 13 = 24 := by decide +kernel
theorem l13 : ln 13 = 8 := by decide +kernel
theorem k14 : kd 14 = 20 := by decide +kernel
theorem l14 : ln 14 = 8 := by decide +kernel
theorem k15 : kd 15 = 20 := by decide +kernel
theorem l15 : ln 15 = 8 := by decide +kernel
theorem k16 : kd 16 = 20 := by decide +kernel
theorem l16 : ln 16 = 8 := by decide +kernel
theorem k17 : kd 17 = 20 := by decide +kernel
theorem l17 : ln 17 = 8 := by decide +kernel
theorem k18 : kd 18 = 20 := by decide +kernel
theorem l18 : ln 18 = 8 := by decide +kernel
theorem k19 : kd 19 = 20 := by decide +kernel
theorem l19 : ln 19 = 8 := by decide +kernel
theorem k20 : kd 20 = 20 := by decide +kernel
theorem l20 : ln 20 = 8 := by decide +kernel
theorem k21 : kd 21 = 20 := by decide +kernel
theorem l21 : ln 21 = 8 := by decide +kernel
theorem k22 : kd 22 = 20 := by decide +kernel
theorem l22 : ln 22 = 8 := by decide +kernel
theorem k23 : kd 23 = 20 := by decide +kernel
theorem l23 : ln 23 = 8 := by decide +kernel
theorem k24 : kd 24 = 20 := by decide +kernel
theorem l24 : ln 24 = 120 := by decide +kernel
theorem k25 : kd 25 = 21 := by decide +kernel
theorem l25 : ln 25 = 8 := by decide +kernel
theorem k26 : kd 26 = 21 := by decide +kernel
theorem l26 : ln 26 = 8 := by decide +kernel
theorem k27 : kd 27 = 1 := by decide +kernel
theorem l27 : ln 27 = 4 := by decide +kernel
theorem k28 : kd 28 = 0 := by decide +kernel
theorem l28 : ln 28 = 3 := by decide +kernel
theorem k29 : kd 29 = 24 := by decide +kernel
theorem l29 : ln 29 = 8 := by decide +kernel
theorem k30 : kd 30 = 20 := by decide +kernel
theorem l30 : ln 30 = 8 := by decide +kernel
theorem k31 : kd 31 = 20 := by decide +kernel
theorem l31 : ln 31 = 8 := by decide +kernel
theorem k32 : kd 32 = 20 := by decide +kernel
theorem l32 : ln 32 = 8 := by decide +kernel
theorem k33 : kd 33 = 20 := by decide +kernel
theorem l33 : ln 33 = 8 := by decide +kernel
theorem k34 : kd 34 = 20 := by decide +kernel
theorem l34 : ln 34 = 8 := by decide +kernel
theorem k35 : kd 35 = 20 := by decide +kernel
theorem l35 : ln 35 = 8 := by decide +kernel
theorem k36 : kd 36 = 20 := by decide +kernel
theorem l36 : ln 36 = 8 := by decide +kernel
theorem k37 : kd 37 = 20 := by decide +kernel
theorem l37 : ln 37 = 8 := by decide +kernel
theorem k38 : kd 38 = 20 := by decide +kernel
theorem l38 : ln 38 = 8 := by decide +kernel
theorem k39 : kd 39 = 20 := by decide +kernel
theorem l39 : ln 39 = 8 := by decide +kernel
theorem k40 : kd 40 = 20 := by decide +kernel
theorem l40 : ln 40 = 8 := by decide +kernel
theorem k41 : kd 41 = 20 := by decide +kernel
theorem l41 : ln 41 = 8 := by decide +kernel
theorem k42 : kd 42 = 9 := by decide +kernel
theorem l42 : ln 42 = 7 := by decide +kernel
theorem k43 : kd 43 = 0 := by decide +kernel
theorem l43 : ln 43 = 3 := by decide +kernel
theorem k44 : kd 44 = 24 := by decide +kernel
theorem l44 : ln 44 = 8 := by decide +kernel
theorem k45 : kd 45 = 20 := by decide +kernel
theorem l45 : ln 45 = 8 := by decide +kernel
theorem k46 : kd 46 = 20 := by decide +kernel
theorem l46 : ln 46 = 8 := by decide +kernel
theorem k47 : kd 47 = 20 := by decide +kernel
theorem l47 : ln 47 = 8 := by decide +kernel
theorem k48 : kd 48 = 20 := by decide +kernel
theorem l48 : ln 48 = 8 := by decide +kernel
theorem k49 : kd 49 = 20 := by decide +kernel
theorem l49 : ln 49 = 8 := by decide +kernel
theorem k50 : kd 50 = 20 := by decide +kernel
theorem l50 : ln 50 = 8 := by decide +kernel
theorem k51 : kd 51 = 20 := by decide +kernel
theorem l51 : ln 51 = 8 := by decide +kernel
theorem k52 : kd 52 = 20 := by decide +kernel
theorem l52 : ln 52 = 8 := by decide +kernel
theorem k53 : kd 53 = 20 := by decide +kernel
theorem l53 : ln 53 = 8 := by decide +kernel
theorem k54 : kd 54 = 20 := by decide +kernel
theorem l54 : ln 54 = 8 := by decide +kernel
theorem k55 : kd 55 = 20 := by decide +kernel
theorem l55 : ln 55 = 8 := by decide +kernel
theorem k56 : kd 56 = 25 := by decide +kernel
theorem l56 : ln 56 = 18 := by decide +kernel
theorem k57 : kd 57 = 21 := by decide +kernel
theorem l57 : ln 57 = 104 := by decide +kernel
theorem k58 : kd 58 = 21 := by decide +kernel
theorem l58 : ln 58 = 104 := by decide +kernel
theorem k59 : kd 59 = 21 := by decide +kernel
theorem l59 : ln 59 = 104 := by decide +kernel
theorem k60 : kd 60 = 21 := by decide +kernel
theorem l60 : ln 60 = 104 := by decide +kernel
theorem k61 : kd 61 = 21 := by decide +kernel
theorem l61 : ln 61 = 104 := by decide +kernel
theorem k62 : kd 62 = 21 := by decide +kernel
theorem l62 : ln 62 = 104 := by decide +kernel
theorem k63 : kd 63 = 21 := by decide +kernel
theorem l63 : ln 63 = 104 := by decide +kernel
theorem k64 : kd 64 = 21 := by decide +kernel
theorem l64 : ln 64 = 104 := by decide +kernel
theorem k65 : kd 65 = 21 := by decide +kernel
theorem l65 : ln 65 = 104 := by decide +kernel
theorem k66 : kd 66 = 21 := by decide +kernel
theorem l66 : ln 66 = 104 := by decide +kernel
theorem k67 : kd 67 = 21 := by decide +kernel
theorem l67 : ln 67 = 104 := by decide +kernel
theorem k68 : kd 68 = 21 := by decide +kernel
theorem l68 : ln 68 = 104 := by decide +kernel
theorem k69 : kd 69 = 21 := by decide +kernel
theorem l69 : ln 69 = 104 := by decide +kernel
theorem k70 : kd 70 = 21 := by decide +kernel
theorem l70 : ln 70 = 104 := by decide +kernel
theorem k71 : kd 71 = 21 := by decide +kernel
theorem l71 : ln 71 = 104 := by decide +kernel
theorem k72 : kd 72 = 21 := by decide +kernel
theorem l72 : ln 72 = 104 := by decide +kernel
theorem k73 : kd 73 = 21 := by decide +kernel
theorem l73 : ln 73 = 104 := by decide +kernel
theorem k74 : kd 74 = 21 := by decide +kernel
theorem l74 : ln 74 = 104 := by decide +kernel
theorem k75 : kd 75 = 21 := by decide +kernel
theorem l75 : ln 75 = 104 := by decide +kernel
theorem k76 : kd 76 = 21 := by decide +kernel
theorem l76 : ln 76 = 104 := by decide +kernel
theorem k77 : kd 77 = 21 := by decide +kernel
theorem l77 : ln 77 = 13 := by decide +kernel
theorem k78 : kd 78 = 4 := by decide +kernel
theorem l78 : ln 78 = 5 := by decide +kernel
theorem k79 : kd 79 = 20 := by decide +kernel
theorem l79 : ln 79 = 132 := by decide +kernel
theorem k80 : kd 80 = 20 := by decide +kernel
theorem l80 : ln 80 = 12 := by decide +kernel
theorem k81 : kd 81 = 20 := by decide +kernel
theorem l81 : ln 81 = 12 := by decide +kernel
theorem k82 : kd 82 = 20 := by decide +kernel
theorem l82 : ln 82 = 144 := by decide +kernel
theorem k83 : kd 83 = 0 := by decide +kernel
theorem l83 : ln 83 = 3 := by decide +kernel
theorem k84 : kd 84 = 24 := by decide +kernel
theorem l84 : ln 84 = 8 := by decide +kernel
theorem k85 : kd 85 = 20 := by decide +kernel
theorem l85 : ln 85 = 8 := by decide +kernel
theorem k86 : kd 86 = 20 := by decide +kernel
theorem l86 : ln 86 = 8 := by decide +kernel
theorem k87 : kd 87 = 20 := by decide +kernel
theorem l87 : ln 87 = 8 := by decide +kernel
theorem k88 : kd 88 = 20 := by decide +kernel
theorem l88 : ln 88 = 8 := by decide +kernel
theorem k89 : kd 89 = 20 := by decide +kernel
theorem l89 : ln 89 = 8 := by decide +kernel
theorem k90 : kd 90 = 20 := by decide +kernel
theorem l90 : ln 90 = 8 := by decide +kernel
theorem k91 : kd 91 = 20 := by decide +kernel
theorem l91 : ln 91 = 8 := by decide +kernel
theorem k92 : kd 92 = 20 := by decide +kernel
theorem l92 : ln 92 = 8 := by decide +kernel
theorem k93 : kd 93 = 20 := by decide +kernel
theorem l93 : ln 93 = 8 := by decide +kernel
theorem k94 : kd 94 = 20 := by decide +kernel
theorem l94 : ln 94 = 8 := by decide +kernel
theorem k95 : kd 95 = 0 := by decide +kernel
theorem l95 : ln 95 = 3 := by decide +kernel
theorem k96 : kd 96 = 24 := by decide +kernel
theorem l96 : ln 96 = 8 := by decide +kernel
theorem k97 : kd 97 = 20 := by decide +kernel
theorem l97 : ln 97 = 8 := by decide +kernel
theorem k98 : kd 98 = 20 := by decide +kernel
theorem l98 : ln 98 = 8 := by decide +kernel
theorem k99 : kd 99 = 20 := by decide +kernel
theorem l99 : ln 99 = 8 := by decide +kernel
theorem k100 : kd 100 = 20 := by decide +kernel
theorem l100 : ln 100 = 8 := by decide +kernel
theorem k101 : kd 101 = 20 := by decide +kernel
theorem l101 : ln 101 = 8 := by decide +kernel
theorem k102 : kd 102 = 20 := by decide +kernel
theorem l102 : ln 102 = 8 := by decide +kernel
theorem k103 : kd 103 = 20 := by decide +kernel
theorem l103 : ln 103 = 8 := by decide +kernel
theorem k104 : kd 104 = 20 := by decide +kernel
theorem l104 : ln 104 = 8 := by decide +kernel
theorem k105 : kd 105 = 20 := by decide +kernel
theorem l105 : ln 105 = 8 := by decide +kernel
theorem k106 : kd 106 = 20 := by decide +kernel
theorem l106 : ln 106 = 8 := by decide +kernel
theorem k107 : kd 107 = 7 := by decide +kernel
theorem l107 : ln 107 = 4 := by decide +kernel
theorem k108 : kd 108 = 24 := by decide +kernel
theorem l108 : ln 108 = 4 := by decide +kernel
theorem k109 : kd 109 = 20 := by decide +kernel
theorem l109 : ln 109 = 60 := by decide +kernel
theorem k110 : kd 110 = 20 := by decide +kernel
theorem l110 : ln 110 = 60 := by decide +kernel
theorem k111 : kd 111 = 20 := by decide +kernel
theorem l111 : ln 111 = 60 := by decide +kernel
theorem k112 : kd 112 = 20 := by decide +kernel
theorem l112 : ln 112 = 60 := by decide +kernel
theorem k113 : kd 113 = 20 := by decide +kernel
theorem l113 : ln 113 = 4 := by decide +kernel
theorem k114 : kd 114 = 20 := by decide +kernel
theorem l114 : ln 114 = 4 := by decide +kernel
theorem k115 : kd 115 = 8 := by decide +kernel
theorem l115 : ln 115 = 3 := by decide +kernel
theorem k116 : kd 116 = 20 := by decide +kernel
theorem l116 : ln 116 = 50 := by decide +kernel
theorem k117 : kd 117 = 8 := by decide +kernel
theorem l117 : ln 117 = 3 := by decide +kernel
theorem k118 : kd 118 = 20 := by decide +kernel
theorem l118 : ln 118 = 50 := by decide +kernel
theorem k119 : kd 119 = 8 := by decide +kernel
theorem l119 : ln 119 = 3 := by decide +kernel
theorem k120 : kd 120 = 20 := by decide +kernel
theorem l120 : ln 120 = 50 := by decide +kernel
theorem k121 : kd 121 = 8 := by decide +kernel
theorem l121 : ln 121 = 3 := by decide +kernel
theorem k122 : kd 122 = 20 := by decide +kernel
theorem l122 : ln 122 = 50 := by decide +kernel
theorem k123 : kd 123 = 11 := by decide +kernel
theorem l123 : ln 123 = 35 := by decide +kernel
theorem k124 : kd 124 = 20 := by decide +kernel
theorem l124 : ln 124 = 4 := by decide +kernel
theorem k125 : kd 125 = 20 := by decide +kernel
theorem l125 : ln 125 = 4 := by decide +kernel
theorem k126 : kd 126 = 20 := by decide +kernel
theorem l126 : ln 126 = 240 := by decide +kernel
theorem k127 : kd 127 = 20 := by decide +kernel
theorem l127 : ln 127 = 60 := by decide +kernel
theorem k128 : kd 128 = 20 := by decide +kernel
theorem l128 : ln 128 = 140 := by decide +kernel
theorem k129 : kd 129 = 20 := by decide +kernel
theorem l129 : ln 129 = 4 := by decide +kernel
theorem k130 : kd 130 = 20 := by decide +kernel
theorem l130 : ln 130 = 9 := by decide +kernel
theorem k131 : kd 131 = 20 := by decide +kernel
theorem l131 : ln 131 = 9 := by decide +kernel
theorem k132 : kd 132 = 22 := by decide +kernel
theorem l132 : ln 132 = 9 := by decide +kernel
theorem k133 : kd 133 = 20 := by decide +kernel
theorem l133 : ln 133 = 120 := by decide +kernel
theorem k134 : kd 134 = 20 := by decide +kernel
theorem l134 : ln 134 = 2 := by decide +kernel
theorem k135 : kd 135 = 20 := by decide +kernel
theorem l135 : ln 135 = 64 := by decide +kernel
theorem k136 : kd 136 = 21 := by decide +kernel
theorem l136 : ln 136 = 64 := by decide +kernel
theorem k137 : kd 137 = 20 := by decide +kernel
theorem l137 : ln 137 = 120 := by decide +kernel
theorem k138 : kd 138 = 20 := by decide +kernel
theorem l138 : ln 138 = 96 := by decide +kernel
theorem k139 : kd 139 = 21 := by decide +kernel
theorem l139 : ln 139 = 15808 := by decide +kernel
theorem k140 : kd 140 = 21 := by decide +kernel
theorem l140 : ln 140 = 13 := by decide +kernel
theorem k141 : kd 141 = 21 := by decide +kernel
theorem l141 : ln 141 = 13 := by decide +kernel
theorem k142 : kd 142 = 20 := by decide +kernel
theorem l142 : ln 142 = 720 := by decide +kernel
theorem k143 : kd 143 = 20 := by decide +kernel
theorem l143 : ln 143 = 12 := by decide +kernel
theorem k144 : kd 144 = 22 := by decide +kernel
theorem l144 : ln 144 = 12 := by decide +kernel
theorem k145 : kd 145 = 20 := by decide +kernel
theorem l145 : ln 145 = 11 := by decide +kernel
theorem k146 : kd 146 = 20 := by decide +kernel
theorem l146 : ln 146 = 64 := by decide +kernel
theorem k147 : kd 147 = 20 := by decide +kernel
theorem l147 : ln 147 = 64 := by decide +kernel
theorem r0_0 : rf 0 0 = 1 := by decide +kernel
theorem r0_1 : rf 0 1 = 3 := by decide +kernel
theorem r0_2 : rf 0 2 = 4 := by decide +kernel
theorem r0_3 : rf 0 3 = 6 := by decide +kernel
theorem r0_4 : rf 0 4 = 8 := by decide +kernel
theorem r0_5 : rf 0 5 = 11 := by decide +kernel
theorem r0_6 : rf 0 6 = 27 := by decide +kernel
theorem r0_7 : rf 0 7 = 42 := by decide +kernel
theorem r0_8 : rf 0 8 = 78 := by decide +kernel
theorem r0_9 : rf 0 9 = 83 := by decide +kernel
theorem r0_10 : rf 0 10 = 95 := by decide +kernel
theorem r0_11 : rf 0 11 = 107 := by decide +kernel
theorem r1_0 : rf 1 0 = 2 := by decide +kernel
theorem r4_0 : rf 4 0 = 5 := by decide +kernel
theorem r6_0 : rf 6 0 = 7 := by decide +kernel
theorem r8_0 : rf 8 0 = 1 := by decide +kernel
theorem r8_1 : rf 8 1 = 9 := by decide +kernel
theorem r9_0 : rf 9 0 = 10 := by decide +kernel
theorem r11_0 : rf 11 0 = 1 := by decide +kernel
theorem r11_1 : rf 11 1 = 12 := by decide +kernel
theorem r11_2 : rf 11 2 = 24 := by decide +kernel
theorem r11_4 : rf 11 4 = 25 := by decide +kernel
theorem r11_5 : rf 11 5 = 26 := by decide +kernel
theorem r12_0 : rf 12 0 = 13 := by decide +kernel
theorem r12_1 : rf 12 1 = 22 := by decide +kernel
theorem r12_2 : rf 12 2 = 23 := by decide +kernel
theorem r27_0 : rf 27 0 = 1 := by decide +kernel
theorem r27_1 : rf 27 1 = 28 := by decide +kernel
theorem r27_2 : rf 27 2 = 40 := by decide +kernel
theorem r27_3 : rf 27 3 = 41 := by decide +kernel
theorem r28_0 : rf 28 0 = 29 := by decide +kernel
theorem r28_1 : rf 28 1 = 38 := by decide +kernel
theorem r28_2 : rf 28 2 = 39 := by decide +kernel
theorem r42_0 : rf 42 0 = 1 := by decide +kernel
theorem r42_1 : rf 42 1 = 43 := by decide +kernel
theorem r42_2 : rf 42 2 = 55 := by decide +kernel
theorem r42_3 : rf 42 3 = 56 := by decide +kernel
theorem r42_4 : rf 42 4 = 75 := by decide +kernel
theorem r42_5 : rf 42 5 = 76 := by decide +kernel
theorem r42_6 : rf 42 6 = 77 := by decide +kernel
theorem r43_0 : rf 43 0 = 44 := by decide +kernel
theorem r43_1 : rf 43 1 = 53 := by decide +kernel
theorem r43_2 : rf 43 2 = 54 := by decide +kernel
theorem r78_0 : rf 78 0 = 79 := by decide +kernel
theorem r78_1 : rf 78 1 = 80 := by decide +kernel
theorem r78_2 : rf 78 2 = 81 := by decide +kernel
theorem r78_3 : rf 78 3 = 82 := by decide +kernel
theorem r83_0 : rf 83 0 = 84 := by decide +kernel
theorem r83_1 : rf 83 1 = 93 := by decide +kernel
theorem r83_2 : rf 83 2 = 94 := by decide +kernel
theorem r95_0 : rf 95 0 = 96 := by decide +kernel
theorem r95_1 : rf 95 1 = 105 := by decide +kernel
theorem r95_2 : rf 95 2 = 106 := by decide +kernel
theorem r107_0 : rf 107 0 = 108 := by decide +kernel
theorem r107_1 : rf 107 1 = 113 := by decide +kernel
theorem r107_2 : rf 107 2 = 114 := by decide +kernel
theorem r115_0 : rf 115 0 = 116 := by decide +kernel
theorem r117_0 : rf 117 0 = 118 := by decide +kernel
theorem r119_0 : rf 119 0 = 120 := by decide +kernel
theorem r121_0 : rf 121 0 = 122 := by decide +kernel
theorem r123_0 : rf 123 0 = 124 := by decide +kernel
theorem r123_1 : rf 123 1 = 125 := by decide +kernel
theorem r123_2 : rf 123 2 = 126 := by decide +kernel
theorem r123_3 : rf 123 3 = 127 := by decide +kernel
theorem r123_5 : rf 123 5 = 128 := by decide +kernel
theorem r123_6 : rf 123 6 = 129 := by decide +kernel
theorem r123_9 : rf 123 9 = 130 := by decide +kernel
theorem r123_10 : rf 123 10 = 131 := by decide +kernel
theorem r123_11 : rf 123 11 = 132 := by decide +kernel
theorem r123_14 : rf 123 14 = 133 := by decide +kernel
theorem r123_15 : rf 123 15 = 134 := by decide +kernel
theorem r123_17 : rf 123 17 = 135 := by decide +kernel
theorem r123_18 : rf 123 18 = 136 := by decide +kernel
theorem r123_19 : rf 123 19 = 137 := by decide +kernel
theorem r123_24 : rf 123 24 = 138 := by decide +kernel
theorem r123_25 : rf 123 25 = 139 := by decide +kernel
theorem r123_26 : rf 123 26 = 140 := by decide +kernel
theorem r123_27 : rf 123 27 = 141 := by decide +kernel
theorem r123_29 : rf 123 29 = 142 := by decide +kernel
theorem r123_30 : rf 123 30 = 143 := by decide +kernel
theorem r123_31 : rf 123 31 = 144 := by decide +kernel
theorem r123_32 : rf 123 32 = 145 := by decide +kernel
theorem r123_33 : rf 123 33 = 146 := by decide +kernel
theorem r123_34 : rf 123 34 = 147 := by decide +kernel
theorem sP0 : ∀ o, kd o = 5 → rf o 0 = o + 1 := by
  have h : ∀ o, o < NC → kd o = 5 → rf o 0 = o + 1 := by decide +kernel
  exact fun o ho => h o (kd_lt20 (by omega)) ho
theorem sP0k : ∀ o, kd o = 5 → kd (o + 1) = 20 := by
  have h : ∀ o, o < NC → kd o = 5 → kd (o + 1) = 20 := by decide +kernel
  exact fun o ho => h o (kd_lt20 (by omega)) ho
theorem sP0l : ∀ o, kd o = 5 → ln (o + 1) = 60 := by
  have h : ∀ o, o < NC → kd o = 5 → ln (o + 1) = 60 := by decide +kernel
  exact fun o ho => h o (kd_lt20 (by omega)) ho
theorem sT0 : ∀ o, kd o = 8 → rf o 0 = o + 1 := by
  have h : ∀ o, o < NC → kd o = 8 → rf o 0 = o + 1 := by decide +kernel
  exact fun o ho => h o (kd_lt20 (by omega)) ho
theorem sT0k : ∀ o, kd o = 8 → kd (o + 1) = 20 := by
  have h : ∀ o, o < NC → kd o = 8 → kd (o + 1) = 20 := by decide +kernel
  exact fun o ho => h o (kd_lt20 (by omega)) ho
theorem sT0l : ∀ o, kd o = 8 → ln (o + 1) = 50 := by
  have h : ∀ o, o < NC → kd o = 8 → ln (o + 1) = 50 := by decide +kernel
  exact fun o ho => h o (kd_lt20 (by omega)) ho
theorem sD0 : ∀ o, kd o = 0 → rf o 0 = o + 1 := by
  have h : ∀ o, o < NC → kd o = 0 → rf o 0 = o + 1 := by decide +kernel
  exact fun o ho => h o (kd_lt20 (by omega)) ho
theorem sD0k : ∀ o, kd o = 0 → kd (o + 1) = 24 := by
  have h : ∀ o, o < NC → kd o = 0 → kd (o + 1) = 24 := by decide +kernel
  exact fun o ho => h o (kd_lt20 (by omega)) ho
theorem sD0l : ∀ o, kd o = 0 → ln (o + 1) = 8 := by
  have h : ∀ o, o < NC → kd o = 0 → ln (o + 1) = 8 := by decide +kernel
  exact fun o ho => h o (kd_lt20 (by omega)) ho
theorem sD1 : ∀ o, kd o = 0 → rf o 1 = o + 10 := by
  have h : ∀ o, o < NC → kd o = 0 → rf o 1 = o + 10 := by decide +kernel
  exact fun o ho => h o (kd_lt20 (by omega)) ho
theorem sD1k : ∀ o, kd o = 0 → kd (o + 10) = 20 := by
  have h : ∀ o, o < NC → kd o = 0 → kd (o + 10) = 20 := by decide +kernel
  exact fun o ho => h o (kd_lt20 (by omega)) ho
theorem sD1l : ∀ o, kd o = 0 → ln (o + 10) = 8 := by
  have h : ∀ o, o < NC → kd o = 0 → ln (o + 10) = 8 := by decide +kernel
  exact fun o ho => h o (kd_lt20 (by omega)) ho
theorem sD2 : ∀ o, kd o = 0 → rf o 2 = o + 11 := by
  have h : ∀ o, o < NC → kd o = 0 → rf o 2 = o + 11 := by decide +kernel
  exact fun o ho => h o (kd_lt20 (by omega)) ho
theorem sD2k : ∀ o, kd o = 0 → kd (o + 11) = 20 := by
  have h : ∀ o, o < NC → kd o = 0 → kd (o + 11) = 20 := by decide +kernel
  exact fun o ho => h o (kd_lt20 (by omega)) ho
theorem sD2l : ∀ o, kd o = 0 → ln (o + 11) = 8 := by
  have h : ∀ o, o < NC → kd o = 0 → ln (o + 11) = 8 := by decide +kernel
  exact fun o ho => h o (kd_lt20 (by omega)) ho
theorem sDr0 : ∀ o, kd o = 0 → ∀ j, j < 8 → kd (o + 2 + j) = 20 ∧ ln (o + 2 + j) = 8 := by
  have h : ∀ o, o < NC → kd o = 0 → ∀ j, j < 8 → kd (o + 2 + j) = 20 ∧ ln (o + 2 + j) = 8 := by decide +kernel
  exact fun o ho => h o (kd_lt20 (by omega)) ho
theorem vp_lt {i : Int32} {n : Nat} (h : vp_in i n) : i.toNatClampNeg < n := Nat.not_le.mp fun q => h (Or.inr q)
theorem sDrk {o : Nat} (h : kd o = 0) {i : Int32} (hi : vp_in i 8) : kd (o + 2 + i.toNatClampNeg) = 20 := (sDr0 o h _ (vp_lt hi)).1
theorem sDrl {o : Nat} (h : kd o = 0) {i : Int32} (hi : vp_in i 8) : ln (o + 2 + i.toNatClampNeg) = 8 := (sDr0 o h _ (vp_lt hi)).2
theorem sTx0 : ∀ j, j < 4 → kd (115 + 2 * j) = 8 := by decide +kernel
theorem sTxk {i : Int32} (hi : vp_in i 4) : kd (115 + 2 * i.toNatClampNeg) = 8 := sTx0 _ (vp_lt hi)
theorem sSh0 : ∀ j, j < 4 → kd (109 + j) = 20 ∧ ln (109 + j) = 60 := by decide +kernel
theorem sShk {i : Int32} (hi : vp_in i 4) : kd (109 + i.toNatClampNeg) = 20 := (sSh0 _ (vp_lt hi)).1
theorem sShl {i : Int32} (hi : vp_in i 4) : ln (109 + i.toNatClampNeg) = 60 := (sSh0 _ (vp_lt hi)).2
theorem sBh0 : ∀ j, j < 18 → kd (57 + j) = 21 ∧ ln (57 + j) = 104 := by decide +kernel
theorem sBhk {i : Int32} (hi : vp_in i 18) : kd (57 + i.toNatClampNeg) = 21 := (sBh0 _ (vp_lt hi)).1
theorem sBhl {i : Int32} (hi : vp_in i 18) : ln (57 + i.toNatClampNeg) = 104 := (sBh0 _ (vp_lt hi)).2
theorem npJ7_fill_53178 : (parseMethodDescriptor MJ7_fill_53178.1.desc).map (fun d => d.parameters.length) = some 2 := by decide +kernel
theorem npX3_gatesTold : (parseMethodDescriptor MX3_gatesTold.1.desc).map (fun d => d.parameters.length) = some 0 := by decide +kernel
theorem npX3_from : (parseMethodDescriptor MX3_from.1.desc).map (fun d => d.parameters.length) = some 1 := by decide +kernel
theorem npX3_to : (parseMethodDescriptor MX3_to.1.desc).map (fun d => d.parameters.length) = some 1 := by decide +kernel
theorem npX0_link : (parseMethodDescriptor MX0_link.1.desc).map (fun d => d.parameters.length) = some 2 := by decide +kernel
theorem npX0_layOut : (parseMethodDescriptor MX0_layOut.1.desc).map (fun d => d.parameters.length) = some 2 := by decide +kernel
theorem npX0_spread : (parseMethodDescriptor MX0_spread.1.desc).map (fun d => d.parameters.length) = some 1 := by decide +kernel
theorem npX0_measure : (parseMethodDescriptor MX0_measure.1.desc).map (fun d => d.parameters.length) = some 2 := by decide +kernel
theorem npX0_measureLinked : (parseMethodDescriptor MX0_measureLinked.1.desc).map (fun d => d.parameters.length) = some 4 := by decide +kernel
theorem npX10_isTown : (parseMethodDescriptor MX10_isTown.1.desc).map (fun d => d.parameters.length) = some 1 := by decide +kernel
theorem npX0_measureFrom : (parseMethodDescriptor MX0_measureFrom.1.desc).map (fun d => d.parameters.length) = some 3 := by decide +kernel
theorem npX0_between : (parseMethodDescriptor MX0_between.1.desc).map (fun d => d.parameters.length) = some 2 := by decide +kernel
theorem npX0_reachedFrom : (parseMethodDescriptor MX0_reachedFrom.1.desc).map (fun d => d.parameters.length) = some 1 := by decide +kernel
theorem npX0_pairsUnlike : (parseMethodDescriptor MX0_pairsUnlike.1.desc).map (fun d => d.parameters.length) = some 1 := by decide +kernel
theorem npJ9_abs_0f7a4 : (parseMethodDescriptor MJ9_abs_0f7a4.1.desc).map (fun d => d.parameters.length) = some 1 := by decide +kernel
theorem npJ9_max_7cf53 : (parseMethodDescriptor MJ9_max_7cf53.1.desc).map (fun d => d.parameters.length) = some 2 := by decide +kernel
theorem npX0_mostUnlike : (parseMethodDescriptor MX0_mostUnlike.1.desc).map (fun d => d.parameters.length) = some 1 := by decide +kernel
theorem npX3_openLanes : (parseMethodDescriptor MX3_openLanes.1.desc).map (fun d => d.parameters.length) = some 0 := by decide +kernel
theorem npX1_setOut : (parseMethodDescriptor MX1_setOut.1.desc).map (fun d => d.parameters.length) = some 1 := by decide +kernel
theorem npX3_roomTold : (parseMethodDescriptor MX3_roomTold.1.desc).map (fun d => d.parameters.length) = some 0 := by decide +kernel
theorem npX1_reached : (parseMethodDescriptor MX1_reached.1.desc).map (fun d => d.parameters.length) = some 0 := by decide +kernel
theorem npX3_letters : (parseMethodDescriptor MX3_letters.1.desc).map (fun d => d.parameters.length) = some 0 := by decide +kernel
theorem npX3_isOpen : (parseMethodDescriptor MX3_isOpen.1.desc).map (fun d => d.parameters.length) = some 1 := by decide +kernel
theorem npX3_isWatched : (parseMethodDescriptor MX3_isWatched.1.desc).map (fun d => d.parameters.length) = some 1 := by decide +kernel
theorem npJ9_min_7cf53 : (parseMethodDescriptor MJ9_min_7cf53.1.desc).map (fun d => d.parameters.length) = some 2 := by decide +kernel
theorem npX1_comeNearer : (parseMethodDescriptor MX1_comeNearer.1.desc).map (fun d => d.parameters.length) = some 2 := by decide +kernel
theorem npX1_allowOneMore : (parseMethodDescriptor MX1_allowOneMore.1.desc).map (fun d => d.parameters.length) = some 0 := by decide +kernel
theorem npX1_fullest : (parseMethodDescriptor MX1_fullest.1.desc).map (fun d => d.parameters.length) = some 2 := by decide +kernel
theorem npX1_homely : (parseMethodDescriptor MX1_homely.1.desc).map (fun d => d.parameters.length) = some 1 := by decide +kernel
theorem npX1_stepsTo : (parseMethodDescriptor MX1_stepsTo.1.desc).map (fun d => d.parameters.length) = some 1 := by decide +kernel
theorem npX2_onPaper : (parseMethodDescriptor MX2_onPaper.1.desc).map (fun d => d.parameters.length) = some 0 := by decide +kernel
theorem npX5_size : (parseMethodDescriptor MX5_size.1.desc).map (fun d => d.parameters.length) = some 0 := by decide +kernel
theorem npX2_begin : (parseMethodDescriptor MX2_begin.1.desc).map (fun d => d.parameters.length) = some 1 := by decide +kernel
theorem npX8_size : (parseMethodDescriptor MX8_size.1.desc).map (fun d => d.parameters.length) = some 0 := by decide +kernel
theorem npX8_at : (parseMethodDescriptor MX8_at.1.desc).map (fun d => d.parameters.length) = some 1 := by decide +kernel
theorem npX3_letterOf : (parseMethodDescriptor MX3_letterOf.1.desc).map (fun d => d.parameters.length) = some 1 := by decide +kernel
theorem npX5_strikes : (parseMethodDescriptor MX5_strikes.1.desc).map (fun d => d.parameters.length) = some 1 := by decide +kernel
theorem npX2_mayPass : (parseMethodDescriptor MX2_mayPass.1.desc).map (fun d => d.parameters.length) = some 1 := by decide +kernel
theorem npX5_stamp : (parseMethodDescriptor MX5_stamp.1.desc).map (fun d => d.parameters.length) = some 1 := by decide +kernel
theorem npX2_pass : (parseMethodDescriptor MX2_pass.1.desc).map (fun d => d.parameters.length) = some 1 := by decide +kernel
theorem npX2_follow : (parseMethodDescriptor MX2_follow.1.desc).map (fun d => d.parameters.length) = some 1 := by decide +kernel
theorem npX2_verdict : (parseMethodDescriptor MX2_verdict.1.desc).map (fun d => d.parameters.length) = some 1 := by decide +kernel
theorem npX3_forget : (parseMethodDescriptor MX3_forget.1.desc).map (fun d => d.parameters.length) = some 0 := by decide +kernel
theorem npX3_isFigure : (parseMethodDescriptor MX3_isFigure.1.desc).map (fun d => d.parameters.length) = some 1 := by decide +kernel
theorem npX3_takeRoom : (parseMethodDescriptor MX3_takeRoom.1.desc).map (fun d => d.parameters.length) = some 2 := by decide +kernel
theorem npX3_isTownByte : (parseMethodDescriptor MX3_isTownByte.1.desc).map (fun d => d.parameters.length) = some 1 := by decide +kernel
theorem npX3_takeGate : (parseMethodDescriptor MX3_takeGate.1.desc).map (fun d => d.parameters.length) = some 2 := by decide +kernel
theorem npX3_faultOf : (parseMethodDescriptor MX3_faultOf.1.desc).map (fun d => d.parameters.length) = some 1 := by decide +kernel
theorem npX3_learn : (parseMethodDescriptor MX3_learn.1.desc).map (fun d => d.parameters.length) = some 1 := by decide +kernel
theorem npX3_close : (parseMethodDescriptor MX3_close.1.desc).map (fun d => d.parameters.length) = some 1 := by decide +kernel
theorem npX3_faultPlace : (parseMethodDescriptor MX3_faultPlace.1.desc).map (fun d => d.parameters.length) = some 0 := by decide +kernel
theorem npJ6_bitCount_0f7a4 : (parseMethodDescriptor MJ6_bitCount_0f7a4.1.desc).map (fun d => d.parameters.length) = some 1 := by decide +kernel
theorem npX3_gatesWatched : (parseMethodDescriptor MX3_gatesWatched.1.desc).map (fun d => d.parameters.length) = some 0 := by decide +kernel
theorem npX3_hasGate : (parseMethodDescriptor MX3_hasGate.1.desc).map (fun d => d.parameters.length) = some 1 := by decide +kernel
theorem npX3_openGates : (parseMethodDescriptor MX3_openGates.1.desc).map (fun d => d.parameters.length) = some 0 := by decide +kernel
theorem npX4_isFull : (parseMethodDescriptor MX4_isFull.1.desc).map (fun d => d.parameters.length) = some 0 := by decide +kernel
theorem npX4_size : (parseMethodDescriptor MX4_size.1.desc).map (fun d => d.parameters.length) = some 0 := by decide +kernel
theorem npX5_at : (parseMethodDescriptor MX5_at.1.desc).map (fun d => d.parameters.length) = some 1 := by decide +kernel
theorem npX4_append : (parseMethodDescriptor MX4_append.1.desc).map (fun d => d.parameters.length) = some 2 := by decide +kernel
theorem npX4_dropLast : (parseMethodDescriptor MX4_dropLast.1.desc).map (fun d => d.parameters.length) = some 0 := by decide +kernel
theorem npX4_goodOnes : (parseMethodDescriptor MX4_goodOnes.1.desc).map (fun d => d.parameters.length) = some 0 := by decide +kernel
theorem npX4_stampsOf : (parseMethodDescriptor MX4_stampsOf.1.desc).map (fun d => d.parameters.length) = some 1 := by decide +kernel
theorem npX4_stampAt : (parseMethodDescriptor MX4_stampAt.1.desc).map (fun d => d.parameters.length) = some 2 := by decide +kernel
theorem npX4_unlikeAt : (parseMethodDescriptor MX4_unlikeAt.1.desc).map (fun d => d.parameters.length) = some 2 := by decide +kernel
theorem npX4_letsBy : (parseMethodDescriptor MX4_letsBy.1.desc).map (fun d => d.parameters.length) = some 2 := by decide +kernel
theorem npX4_unlikeOf : (parseMethodDescriptor MX4_unlikeOf.1.desc).map (fun d => d.parameters.length) = some 2 := by decide +kernel
theorem npX4_isLetBy : (parseMethodDescriptor MX4_isLetBy.1.desc).map (fun d => d.parameters.length) = some 2 := by decide +kernel
theorem npX4_slipping : (parseMethodDescriptor MX4_slipping.1.desc).map (fun d => d.parameters.length) = some 1 := by decide +kernel
theorem npX4_gatherUnlike : (parseMethodDescriptor MX4_gatherUnlike.1.desc).map (fun d => d.parameters.length) = some 0 := by decide +kernel
theorem npX4_partsAll : (parseMethodDescriptor MX4_partsAll.1.desc).map (fun d => d.parameters.length) = some 2 := by decide +kernel
theorem npX4_fewestPlaces : (parseMethodDescriptor MX4_fewestPlaces.1.desc).map (fun d => d.parameters.length) = some 0 := by decide +kernel
theorem npX5_empty : (parseMethodDescriptor MX5_empty.1.desc).map (fun d => d.parameters.length) = some 0 := by decide +kernel
theorem npX5_alike : (parseMethodDescriptor MX5_alike.1.desc).map (fun d => d.parameters.length) = some 1 := by decide +kernel
theorem npX6_need : (parseMethodDescriptor MX6_need.1.desc).map (fun d => d.parameters.length) = some 1 := by decide +kernel
theorem npX6_plan : (parseMethodDescriptor MX6_plan.1.desc).map (fun d => d.parameters.length) = some 2 := by decide +kernel
theorem npX6_needAt : (parseMethodDescriptor MX6_needAt.1.desc).map (fun d => d.parameters.length) = some 1 := by decide +kernel
theorem npX6_goal : (parseMethodDescriptor MX6_goal.1.desc).map (fun d => d.parameters.length) = some 2 := by decide +kernel
theorem npX6_origin : (parseMethodDescriptor MX6_origin.1.desc).map (fun d => d.parameters.length) = some 2 := by decide +kernel
theorem npX6_gatesBetween : (parseMethodDescriptor MX6_gatesBetween.1.desc).map (fun d => d.parameters.length) = some 2 := by decide +kernel
theorem npJ7_fill_d0a16 : (parseMethodDescriptor MJ7_fill_d0a16.1.desc).map (fun d => d.parameters.length) = some 2 := by decide +kernel
theorem npX6_isLane : (parseMethodDescriptor MX6_isLane.1.desc).map (fun d => d.parameters.length) = some 1 := by decide +kernel
theorem npX6_stepNearer : (parseMethodDescriptor MX6_stepNearer.1.desc).map (fun d => d.parameters.length) = some 2 := by decide +kernel
theorem npX6_laneWays : (parseMethodDescriptor MX6_laneWays.1.desc).map (fun d => d.parameters.length) = some 2 := by decide +kernel
theorem npX6_ways : (parseMethodDescriptor MX6_ways.1.desc).map (fun d => d.parameters.length) = some 2 := by decide +kernel
theorem npX6_leastNearer : (parseMethodDescriptor MX6_leastNearer.1.desc).map (fun d => d.parameters.length) = some 2 := by decide +kernel
theorem npX6_leastLaneLetter : (parseMethodDescriptor MX6_leastLaneLetter.1.desc).map (fun d => d.parameters.length) = some 3 := by decide +kernel
theorem npX6_leastLetter : (parseMethodDescriptor MX6_leastLetter.1.desc).map (fun d => d.parameters.length) = some 3 := by decide +kernel
theorem npX6_isChained : (parseMethodDescriptor MX6_isChained.1.desc).map (fun d => d.parameters.length) = some 0 := by decide +kernel
theorem npX6_starts : (parseMethodDescriptor MX6_starts.1.desc).map (fun d => d.parameters.length) = some 0 := by decide +kernel
theorem npX6_ends : (parseMethodDescriptor MX6_ends.1.desc).map (fun d => d.parameters.length) = some 0 := by decide +kernel
theorem npX7_find : (parseMethodDescriptor MX7_find.1.desc).map (fun d => d.parameters.length) = some 1 := by decide +kernel
theorem npX7_latestFinding : (parseMethodDescriptor MX7_latestFinding.1.desc).map (fun d => d.parameters.length) = some 0 := by decide +kernel
theorem npX7_isLost : (parseMethodDescriptor MX7_isLost.1.desc).map (fun d => d.parameters.length) = some 1 := by decide +kernel
theorem npX7_size : (parseMethodDescriptor MX7_size.1.desc).map (fun d => d.parameters.length) = some 1 := by decide +kernel
theorem npX7_make : (parseMethodDescriptor MX7_make.1.desc).map (fun d => d.parameters.length) = some 3 := by decide +kernel
theorem npX7_drop : (parseMethodDescriptor MX7_drop.1.desc).map (fun d => d.parameters.length) = some 1 := by decide +kernel
theorem npX7_findingAt : (parseMethodDescriptor MX7_findingAt.1.desc).map (fun d => d.parameters.length) = some 3 := by decide +kernel
theorem npX7_hasRun : (parseMethodDescriptor MX7_hasRun.1.desc).map (fun d => d.parameters.length) = some 3 := by decide +kernel
theorem npX7_findingOfCopy : (parseMethodDescriptor MX7_findingOfCopy.1.desc).map (fun d => d.parameters.length) = some 5 := by decide +kernel
theorem npX7_item : (parseMethodDescriptor MX7_item.1.desc).map (fun d => d.parameters.length) = some 2 := by decide +kernel
theorem npX7_put : (parseMethodDescriptor MX7_put.1.desc).map (fun d => d.parameters.length) = some 3 := by decide +kernel
theorem npX7_move : (parseMethodDescriptor MX7_move.1.desc).map (fun d => d.parameters.length) = some 5 := by decide +kernel
theorem npX8_isFull : (parseMethodDescriptor MX8_isFull.1.desc).map (fun d => d.parameters.length) = some 0 := by decide +kernel
theorem npX8_append : (parseMethodDescriptor MX8_append.1.desc).map (fun d => d.parameters.length) = some 1 := by decide +kernel
theorem npX8_empty : (parseMethodDescriptor MX8_empty.1.desc).map (fun d => d.parameters.length) = some 0 := by decide +kernel
theorem npX9_joinTowns : (parseMethodDescriptor MX9_joinTowns.1.desc).map (fun d => d.parameters.length) = some 0 := by decide +kernel
theorem npX9_goOnByLanes : (parseMethodDescriptor MX9_goOnByLanes.1.desc).map (fun d => d.parameters.length) = some 2 := by decide +kernel
theorem npX9_behindRounds : (parseMethodDescriptor MX9_behindRounds.1.desc).map (fun d => d.parameters.length) = some 4 := by decide +kernel
theorem npX9_lengthen : (parseMethodDescriptor MX9_lengthen.1.desc).map (fun d => d.parameters.length) = some 4 := by decide +kernel
theorem npX9_countRounds : (parseMethodDescriptor MX9_countRounds.1.desc).map (fun d => d.parameters.length) = some 1 := by decide +kernel
theorem npX9_countFrom : (parseMethodDescriptor MX9_countFrom.1.desc).map (fun d => d.parameters.length) = some 3 := by decide +kernel
theorem npX9_stampForGood : (parseMethodDescriptor MX9_stampForGood.1.desc).map (fun d => d.parameters.length) = some 2 := by decide +kernel
theorem npX9_number : (parseMethodDescriptor MX9_number.1.desc).map (fun d => d.parameters.length) = some 4 := by decide +kernel
theorem npX10_isText : (parseMethodDescriptor MX10_isText.1.desc).map (fun d => d.parameters.length) = some 1 := by decide +kernel
theorem npX10_learnIfLand : (parseMethodDescriptor MX10_learnIfLand.1.desc).map (fun d => d.parameters.length) = some 1 := by decide +kernel
theorem npX10_type : (parseMethodDescriptor MX10_type.1.desc).map (fun d => d.parameters.length) = some 2 := by decide +kernel
theorem npX10_wipe : (parseMethodDescriptor MX10_wipe.1.desc).map (fun d => d.parameters.length) = some 1 := by decide +kernel
theorem npX10_wayFault : (parseMethodDescriptor MX10_wayFault.1.desc).map (fun d => d.parameters.length) = some 1 := by decide +kernel
theorem npX10_fault : (parseMethodDescriptor MX10_fault.1.desc).map (fun d => d.parameters.length) = some 1 := by decide +kernel
theorem npX10_gate : (parseMethodDescriptor MX10_gate.1.desc).map (fun d => d.parameters.length) = some 2 := by decide +kernel
theorem npX10_room : (parseMethodDescriptor MX10_room.1.desc).map (fun d => d.parameters.length) = some 0 := by decide +kernel
theorem npX10_shut : (parseMethodDescriptor MX10_shut.1.desc).map (fun d => d.parameters.length) = some 1 := by decide +kernel
theorem npX10_isWay : (parseMethodDescriptor MX10_isWay.1.desc).map (fun d => d.parameters.length) = some 1 := by decide +kernel
theorem npX10_stampWay : (parseMethodDescriptor MX10_stampWay.1.desc).map (fun d => d.parameters.length) = some 2 := by decide +kernel
theorem npX10_byteOf : (parseMethodDescriptor MX10_byteOf.1.desc).map (fun d => d.parameters.length) = some 1 := by decide +kernel
theorem npX10_paper : (parseMethodDescriptor MX10_paper.1.desc).map (fun d => d.parameters.length) = some 2 := by decide +kernel
theorem npX10_isWayOrClean : (parseMethodDescriptor MX10_isWayOrClean.1.desc).map (fun d => d.parameters.length) = some 1 := by decide +kernel
theorem npX10_judgeWay : (parseMethodDescriptor MX10_judgeWay.1.desc).map (fun d => d.parameters.length) = some 3 := by decide +kernel
theorem npX10_judged : (parseMethodDescriptor MX10_judged.1.desc).map (fun d => d.parameters.length) = some 4 := by decide +kernel
theorem npX10_same : (parseMethodDescriptor MX10_same.1.desc).map (fun d => d.parameters.length) = some 2 := by decide +kernel
theorem npX10_areEnds : (parseMethodDescriptor MX10_areEnds.1.desc).map (fun d => d.parameters.length) = some 4 := by decide +kernel
theorem npX10_longRefusal : (parseMethodDescriptor MX10_longRefusal.1.desc).map (fun d => d.parameters.length) = some 1 := by decide +kernel
theorem npX10_planRoute : (parseMethodDescriptor MX10_planRoute.1.desc).map (fun d => d.parameters.length) = some 4 := by decide +kernel
theorem npX10_shortest : (parseMethodDescriptor MX10_shortest.1.desc).map (fun d => d.parameters.length) = some 5 := by decide +kernel
theorem npX10_letter : (parseMethodDescriptor MX10_letter.1.desc).map (fun d => d.parameters.length) = some 5 := by decide +kernel
theorem npX10_errands : (parseMethodDescriptor MX10_errands.1.desc).map (fun d => d.parameters.length) = some 3 := by decide +kernel
theorem npX10_clean : (parseMethodDescriptor MX10_clean.1.desc).map (fun d => d.parameters.length) = some 1 := by decide +kernel
theorem npX10_found : (parseMethodDescriptor MX10_found.1.desc).map (fun d => d.parameters.length) = some 2 := by decide +kernel
theorem npX10_many : (parseMethodDescriptor MX10_many.1.desc).map (fun d => d.parameters.length) = some 4 := by decide +kernel
theorem npX10_list : (parseMethodDescriptor MX10_list.1.desc).map (fun d => d.parameters.length) = some 2 := by decide +kernel
theorem npX10_isSheet : (parseMethodDescriptor MX10_isSheet.1.desc).map (fun d => d.parameters.length) = some 1 := by decide +kernel
theorem npX10_listIfRoom : (parseMethodDescriptor MX10_listIfRoom.1.desc).map (fun d => d.parameters.length) = some 1 := by decide +kernel
theorem npX10_read : (parseMethodDescriptor MX10_read.1.desc).map (fun d => d.parameters.length) = some 1 := by decide +kernel
theorem npX10_unlist : (parseMethodDescriptor MX10_unlist.1.desc).map (fun d => d.parameters.length) = some 0 := by decide +kernel
theorem npX10_listed : (parseMethodDescriptor MX10_listed.1.desc).map (fun d => d.parameters.length) = some 2 := by decide +kernel
theorem npX10_arePlaces : (parseMethodDescriptor MX10_arePlaces.1.desc).map (fun d => d.parameters.length) = some 1 := by decide +kernel
theorem npX10_lets : (parseMethodDescriptor MX10_lets.1.desc).map (fun d => d.parameters.length) = some 2 := by decide +kernel
theorem npX10_slips : (parseMethodDescriptor MX10_slips.1.desc).map (fun d => d.parameters.length) = some 1 := by decide +kernel
theorem npX10_fewest : (parseMethodDescriptor MX10_fewest.1.desc).map (fun d => d.parameters.length) = some 0 := by decide +kernel
theorem npX10_far : (parseMethodDescriptor MX10_far.1.desc).map (fun d => d.parameters.length) = some 2 := by decide +kernel
theorem npX10_without : (parseMethodDescriptor MX10_without.1.desc).map (fun d => d.parameters.length) = some 2 := by decide +kernel
theorem npX10_with : (parseMethodDescriptor MX10_with.1.desc).map (fun d => d.parameters.length) = some 3 := by decide +kernel
theorem npX10_isForm : (parseMethodDescriptor MX10_isForm.1.desc).map (fun d => d.parameters.length) = some 1 := by decide +kernel
theorem npX10_sheet : (parseMethodDescriptor MX10_sheet.1.desc).map (fun d => d.parameters.length) = some 3 := by decide +kernel
theorem npX10_lose : (parseMethodDescriptor MX10_lose.1.desc).map (fun d => d.parameters.length) = some 1 := by decide +kernel
theorem npX10_lay : (parseMethodDescriptor MX10_lay.1.desc).map (fun d => d.parameters.length) = some 4 := by decide +kernel
theorem npX10_get : (parseMethodDescriptor MX10_get.1.desc).map (fun d => d.parameters.length) = some 3 := by decide +kernel
theorem npX10_copy : (parseMethodDescriptor MX10_copy.1.desc).map (fun d => d.parameters.length) = some 5 := by decide +kernel
theorem npX10_write : (parseMethodDescriptor MX10_write.1.desc).map (fun d => d.parameters.length) = some 2 := by decide +kernel
theorem npX10_count : (parseMethodDescriptor MX10_count.1.desc).map (fun d => d.parameters.length) = some 1 := by decide +kernel
theorem npX10_digestGate : (parseMethodDescriptor MX10_digestGate.1.desc).map (fun d => d.parameters.length) = some 2 := by decide +kernel
theorem npX10_digestWay : (parseMethodDescriptor MX10_digestWay.1.desc).map (fun d => d.parameters.length) = some 2 := by decide +kernel
theorem npX10_digestTown : (parseMethodDescriptor MX10_digestTown.1.desc).map (fun d => d.parameters.length) = some 2 := by decide +kernel
theorem npX10_digest : (parseMethodDescriptor MX10_digest.1.desc).map (fun d => d.parameters.length) = some 0 := by decide +kernel
theorem npX11_in : (parseMethodDescriptor MX11_in.1.desc).map (fun d => d.parameters.length) = some 3 := by decide +kernel
theorem npX11_no : (parseMethodDescriptor MX11_no.1.desc).map (fun d => d.parameters.length) = some 1 := by decide +kernel
theorem npX11_isTwo : (parseMethodDescriptor MX11_isTwo.1.desc).map (fun d => d.parameters.length) = some 1 := by decide +kernel
theorem npX11_isTown : (parseMethodDescriptor MX11_isTown.1.desc).map (fun d => d.parameters.length) = some 1 := by decide +kernel
theorem npX11_met : (parseMethodDescriptor MX11_met.1.desc).map (fun d => d.parameters.length) = some 1 := by decide +kernel
theorem npX11_isSheet : (parseMethodDescriptor MX11_isSheet.1.desc).map (fun d => d.parameters.length) = some 1 := by decide +kernel
theorem npX11_sheet : (parseMethodDescriptor MX11_sheet.1.desc).map (fun d => d.parameters.length) = some 3 := by decide +kernel
theorem npX11_lose : (parseMethodDescriptor MX11_lose.1.desc).map (fun d => d.parameters.length) = some 1 := by decide +kernel
theorem npX11_lacks : (parseMethodDescriptor MX11_lacks.1.desc).map (fun d => d.parameters.length) = some 3 := by decide +kernel
theorem npX11_cut : (parseMethodDescriptor MX11_cut.1.desc).map (fun d => d.parameters.length) = some 2 := by decide +kernel
theorem npX11_lay : (parseMethodDescriptor MX11_lay.1.desc).map (fun d => d.parameters.length) = some 4 := by decide +kernel
theorem npX11_get : (parseMethodDescriptor MX11_get.1.desc).map (fun d => d.parameters.length) = some 3 := by decide +kernel
theorem npX11_copy : (parseMethodDescriptor MX11_copy.1.desc).map (fun d => d.parameters.length) = some 5 := by decide +kernel
theorem npX11_isText : (parseMethodDescriptor MX11_isText.1.desc).map (fun d => d.parameters.length) = some 1 := by decide +kernel
theorem npX11_isWay : (parseMethodDescriptor MX11_isWay.1.desc).map (fun d => d.parameters.length) = some 1 := by decide +kernel
theorem npX11_from : (parseMethodDescriptor MX11_from.1.desc).map (fun d => d.parameters.length) = some 1 := by decide +kernel
theorem npX11_type : (parseMethodDescriptor MX11_type.1.desc).map (fun d => d.parameters.length) = some 2 := by decide +kernel
theorem npX11_wipe : (parseMethodDescriptor MX11_wipe.1.desc).map (fun d => d.parameters.length) = some 1 := by decide +kernel
theorem npX11_here : (parseMethodDescriptor MX11_here.1.desc).map (fun d => d.parameters.length) = some 0 := by decide +kernel
theorem npX11_clears : (parseMethodDescriptor MX11_clears.1.desc).map (fun d => d.parameters.length) = some 0 := by decide +kernel
theorem npX11_readsRoom : (parseMethodDescriptor MX11_readsRoom.1.desc).map (fun d => d.parameters.length) = some 0 := by decide +kernel
theorem npX11_readsPart : (parseMethodDescriptor MX11_readsPart.1.desc).map (fun d => d.parameters.length) = some 0 := by decide +kernel
theorem npX11_readsLand : (parseMethodDescriptor MX11_readsLand.1.desc).map (fun d => d.parameters.length) = some 0 := by decide +kernel
theorem npX11_letterOf : (parseMethodDescriptor MX11_letterOf.1.desc).map (fun d => d.parameters.length) = some 1 := by decide +kernel
theorem npX11_byteOf : (parseMethodDescriptor MX11_byteOf.1.desc).map (fun d => d.parameters.length) = some 1 := by decide +kernel
theorem npX11_faultOf : (parseMethodDescriptor MX11_faultOf.1.desc).map (fun d => d.parameters.length) = some 1 := by decide +kernel
theorem npX11_fault : (parseMethodDescriptor MX11_fault.1.desc).map (fun d => d.parameters.length) = some 1 := by decide +kernel
theorem npX11_start : (parseMethodDescriptor MX11_start.1.desc).map (fun d => d.parameters.length) = some 1 := by decide +kernel
theorem npX11_end : (parseMethodDescriptor MX11_end.1.desc).map (fun d => d.parameters.length) = some 1 := by decide +kernel
theorem npX11_back : (parseMethodDescriptor MX11_back.1.desc).map (fun d => d.parameters.length) = some 1 := by decide +kernel
theorem npX11_isShut : (parseMethodDescriptor MX11_isShut.1.desc).map (fun d => d.parameters.length) = some 1 := by decide +kernel
theorem npX11_gate : (parseMethodDescriptor MX11_gate.1.desc).map (fun d => d.parameters.length) = some 2 := by decide +kernel
theorem npX11_room : (parseMethodDescriptor MX11_room.1.desc).map (fun d => d.parameters.length) = some 0 := by decide +kernel
theorem npX11_shut : (parseMethodDescriptor MX11_shut.1.desc).map (fun d => d.parameters.length) = some 1 := by decide +kernel
theorem npX11_stamp : (parseMethodDescriptor MX11_stamp.1.desc).map (fun d => d.parameters.length) = some 2 := by decide +kernel
theorem npX11_lengthOf : (parseMethodDescriptor MX11_lengthOf.1.desc).map (fun d => d.parameters.length) = some 1 := by decide +kernel
theorem npX11_letterAt : (parseMethodDescriptor MX11_letterAt.1.desc).map (fun d => d.parameters.length) = some 2 := by decide +kernel
theorem npX11_findPaper : (parseMethodDescriptor MX11_findPaper.1.desc).map (fun d => d.parameters.length) = some 2 := by decide +kernel
theorem npX11_paper : (parseMethodDescriptor MX11_paper.1.desc).map (fun d => d.parameters.length) = some 2 := by decide +kernel
theorem npX11_isBegun : (parseMethodDescriptor MX11_isBegun.1.desc).map (fun d => d.parameters.length) = some 1 := by decide +kernel
theorem npX11_judgedOf : (parseMethodDescriptor MX11_judgedOf.1.desc).map (fun d => d.parameters.length) = some 4 := by decide +kernel
theorem npX11_judged : (parseMethodDescriptor MX11_judged.1.desc).map (fun d => d.parameters.length) = some 4 := by decide +kernel
theorem npX11_alike : (parseMethodDescriptor MX11_alike.1.desc).map (fun d => d.parameters.length) = some 0 := by decide +kernel
theorem npX11_sameOf : (parseMethodDescriptor MX11_sameOf.1.desc).map (fun d => d.parameters.length) = some 2 := by decide +kernel
theorem npX11_same : (parseMethodDescriptor MX11_same.1.desc).map (fun d => d.parameters.length) = some 2 := by decide +kernel
theorem npX11_isUnseen : (parseMethodDescriptor MX11_isUnseen.1.desc).map (fun d => d.parameters.length) = some 1 := by decide +kernel
theorem npX11_findUnseen : (parseMethodDescriptor MX11_findUnseen.1.desc).map (fun d => d.parameters.length) = some 0 := by decide +kernel
theorem npX11_findBetween : (parseMethodDescriptor MX11_findBetween.1.desc).map (fun d => d.parameters.length) = some 0 := by decide +kernel
theorem npX11_goesOn : (parseMethodDescriptor MX11_goesOn.1.desc).map (fun d => d.parameters.length) = some 2 := by decide +kernel
theorem npX11_findShortest : (parseMethodDescriptor MX11_findShortest.1.desc).map (fun d => d.parameters.length) = some 4 := by decide +kernel
theorem npX11_shortestOf : (parseMethodDescriptor MX11_shortestOf.1.desc).map (fun d => d.parameters.length) = some 5 := by decide +kernel
theorem npX11_isAsked : (parseMethodDescriptor MX11_isAsked.1.desc).map (fun d => d.parameters.length) = some 4 := by decide +kernel
theorem npX11_shortest : (parseMethodDescriptor MX11_shortest.1.desc).map (fun d => d.parameters.length) = some 5 := by decide +kernel
theorem npX11_leastUnseen : (parseMethodDescriptor MX11_leastUnseen.1.desc).map (fun d => d.parameters.length) = some 2 := by decide +kernel
theorem npX11_letter : (parseMethodDescriptor MX11_letter.1.desc).map (fun d => d.parameters.length) = some 5 := by decide +kernel
theorem npX11_findErrands : (parseMethodDescriptor MX11_findErrands.1.desc).map (fun d => d.parameters.length) = some 1 := by decide +kernel
theorem npX11_stampsTo : (parseMethodDescriptor MX11_stampsTo.1.desc).map (fun d => d.parameters.length) = some 1 := by decide +kernel
theorem npX11_errandsOf : (parseMethodDescriptor MX11_errandsOf.1.desc).map (fun d => d.parameters.length) = some 3 := by decide +kernel
theorem npX11_errands : (parseMethodDescriptor MX11_errands.1.desc).map (fun d => d.parameters.length) = some 3 := by decide +kernel
theorem npX11_cleanOf : (parseMethodDescriptor MX11_cleanOf.1.desc).map (fun d => d.parameters.length) = some 1 := by decide +kernel
theorem npX11_clean : (parseMethodDescriptor MX11_clean.1.desc).map (fun d => d.parameters.length) = some 1 := by decide +kernel
theorem npX11_foundOf : (parseMethodDescriptor MX11_foundOf.1.desc).map (fun d => d.parameters.length) = some 2 := by decide +kernel
theorem npX11_found : (parseMethodDescriptor MX11_found.1.desc).map (fun d => d.parameters.length) = some 2 := by decide +kernel
theorem npX11_index : (parseMethodDescriptor MX11_index.1.desc).map (fun d => d.parameters.length) = some 4 := by decide +kernel
theorem npX11_closedBy : (parseMethodDescriptor MX11_closedBy.1.desc).map (fun d => d.parameters.length) = some 5 := by decide +kernel
theorem npX11_findClosed : (parseMethodDescriptor MX11_findClosed.1.desc).map (fun d => d.parameters.length) = some 1 := by decide +kernel
theorem npX11_follows : (parseMethodDescriptor MX11_follows.1.desc).map (fun d => d.parameters.length) = some 4 := by decide +kernel
theorem npX11_manyOf : (parseMethodDescriptor MX11_manyOf.1.desc).map (fun d => d.parameters.length) = some 4 := by decide +kernel
theorem npX11_many : (parseMethodDescriptor MX11_many.1.desc).map (fun d => d.parameters.length) = some 4 := by decide +kernel
theorem npX11_lists : (parseMethodDescriptor MX11_lists.1.desc).map (fun d => d.parameters.length) = some 1 := by decide +kernel
theorem npX11_list : (parseMethodDescriptor MX11_list.1.desc).map (fun d => d.parameters.length) = some 2 := by decide +kernel
theorem npX11_read : (parseMethodDescriptor MX11_read.1.desc).map (fun d => d.parameters.length) = some 1 := by decide +kernel
theorem npX11_unlist : (parseMethodDescriptor MX11_unlist.1.desc).map (fun d => d.parameters.length) = some 0 := by decide +kernel
theorem npX11_listedAt : (parseMethodDescriptor MX11_listedAt.1.desc).map (fun d => d.parameters.length) = some 2 := by decide +kernel
theorem npX11_listed : (parseMethodDescriptor MX11_listed.1.desc).map (fun d => d.parameters.length) = some 2 := by decide +kernel
theorem npX11_letsBy : (parseMethodDescriptor MX11_letsBy.1.desc).map (fun d => d.parameters.length) = some 1 := by decide +kernel
theorem npX11_arePlaces : (parseMethodDescriptor MX11_arePlaces.1.desc).map (fun d => d.parameters.length) = some 1 := by decide +kernel
theorem npX11_lets : (parseMethodDescriptor MX11_lets.1.desc).map (fun d => d.parameters.length) = some 2 := by decide +kernel
theorem npX11_slipsOf : (parseMethodDescriptor MX11_slipsOf.1.desc).map (fun d => d.parameters.length) = some 1 := by decide +kernel
theorem npX11_slips : (parseMethodDescriptor MX11_slips.1.desc).map (fun d => d.parameters.length) = some 1 := by decide +kernel
theorem npX11_ones : (parseMethodDescriptor MX11_ones.1.desc).map (fun d => d.parameters.length) = some 1 := by decide +kernel
theorem npX11_fewestNow : (parseMethodDescriptor MX11_fewestNow.1.desc).map (fun d => d.parameters.length) = some 0 := by decide +kernel
theorem npX11_fewest : (parseMethodDescriptor MX11_fewest.1.desc).map (fun d => d.parameters.length) = some 0 := by decide +kernel
theorem npX11_joins : (parseMethodDescriptor MX11_joins.1.desc).map (fun d => d.parameters.length) = some 2 := by decide +kernel
theorem npX11_findFar : (parseMethodDescriptor MX11_findFar.1.desc).map (fun d => d.parameters.length) = some 3 := by decide +kernel
theorem npX11_farOf : (parseMethodDescriptor MX11_farOf.1.desc).map (fun d => d.parameters.length) = some 2 := by decide +kernel
theorem npX11_far : (parseMethodDescriptor MX11_far.1.desc).map (fun d => d.parameters.length) = some 2 := by decide +kernel
theorem npX11_changed : (parseMethodDescriptor MX11_changed.1.desc).map (fun d => d.parameters.length) = some 4 := by decide +kernel
theorem npX11_without : (parseMethodDescriptor MX11_without.1.desc).map (fun d => d.parameters.length) = some 2 := by decide +kernel
theorem npX11_with : (parseMethodDescriptor MX11_with.1.desc).map (fun d => d.parameters.length) = some 3 := by decide +kernel
theorem npX11_write : (parseMethodDescriptor MX11_write.1.desc).map (fun d => d.parameters.length) = some 2 := by decide +kernel
theorem npX11_count : (parseMethodDescriptor MX11_count.1.desc).map (fun d => d.parameters.length) = some 1 := by decide +kernel
theorem npX11_digest : (parseMethodDescriptor MX11_digest.1.desc).map (fun d => d.parameters.length) = some 0 := by decide +kernel
end
section
set_option maxRecDepth 20000 in
set_option maxHeartbeats 2000000 in
theorem gX5_size_0 {E : EV} {Q : Po} {μ : Mem} {x0 : Nat} (hk0 : kd x0 = 5) (h : Q (some (.int (μ.1 x0 1))) μ) : Ex E MX5_size Q 0 [(0, .ref x0)] [] μ := by
  refine x_aload_n 0 rfl rfl (dk zX5_size 0 rfl) ?_
  refine gf5_1 rfl hk0 (dk zX5_size 1 rfl) ?_
  exact x_iret (ty := .int) rfl rfl (dk zX5_size 2 rfl) h
set_option maxRecDepth 20000 in
set_option maxHeartbeats 2000000 in
theorem gX8_size_0 {E : EV} {Q : Po} {μ : Mem} {x0 : Nat} (hk0 : kd x0 = 8) (h : Q (some (.int (μ.1 x0 2))) μ) : Ex E MX8_size Q 0 [(0, .ref x0)] [] μ := by
  refine x_aload_n 0 rfl rfl (dk zX8_size 0 rfl) ?_
  refine gf8_2 rfl hk0 (dk zX8_size 1 rfl) ?_
  exact x_iret (ty := .int) rfl rfl (dk zX8_size 2 rfl) h
set_option maxRecDepth 20000 in
set_option maxHeartbeats 2000000 in
theorem gX8_at_0 {E : EV} {Q : Po} {μ : Mem} {x0 : Nat} {x1 : Int32} (hk0 : kd x0 = 8) (h : ((x1 < 0 → Q (some (.int ((-1)))) μ) ∧ (¬ x1 < 0 → (((μ.1 x0 2) ≤ x1 → Q (some (.int ((-1)))) μ) ∧ (¬ (μ.1 x0 2) ≤ x1 → vp_in x1 50 ∧ (Q (some (.int (μ.1 (x0 + 1) x1.toNatClampNeg))) μ)))))) : Ex E MX8_at Q 0 [(0, .ref x0), (1, .int x1)] [] μ := by
  refine x_iload_n 1 rfl rfl (dk zX8_at 0 rfl) ?_
  refine x_if_lt (tgt := 21) (by decide) (dk zX8_at 1 rfl) (fun c1 => ?_) (fun c1 => ?_)
  · have hc1t := h.1 c1
    refine x_iconst (v := -1) (by decide) (dk zX8_at 11 rfl) ?_
    exact x_iret (ty := .int) rfl rfl (dk zX8_at 12 rfl) hc1t
  · have hc1f := h.2 c1
    refine x_iload_n 1 rfl rfl (dk zX8_at 2 rfl) ?_
    refine x_aload_n 0 rfl rfl (dk zX8_at 3 rfl) ?_
    refine gf8_2 rfl hk0 (dk zX8_at 4 rfl) ?_
    refine x_icmp_ge (tgt := 21) (by decide) (dk zX8_at 5 rfl) (fun c2 => ?_) (fun c2 => ?_)
    · have hc2t := hc1f.1 c2
      refine x_iconst (v := -1) (by decide) (dk zX8_at 11 rfl) ?_
      exact x_iret (ty := .int) rfl rfl (dk zX8_at 12 rfl) hc2t
    · have hc2f := hc1f.2 c2
      refine x_aload_n 0 rfl rfl (dk zX8_at 6 rfl) ?_
      refine gf8_0 (r := x0 + 1) rfl hk0 (sT0 _ hk0) (dk zX8_at 7 rfl) ?_
      refine x_iload_n 1 rfl rfl (dk zX8_at 8 rfl) ?_
      have b3 := hc2f.1
      have hb3 := hc2f.2
      refine y_iald (j := x1.toNatClampNeg) (sT0k _ hk0) (sT0l _ hk0) b3 rfl (dk zX8_at 9 rfl) ?_
      refine x_goto (tgt := 22) (by decide) (dk zX8_at 10 rfl) ?_
      exact x_iret (ty := .int) rfl rfl (dk zX8_at 12 rfl) hb3
set_option maxRecDepth 20000 in
set_option maxHeartbeats 2000000 in
theorem gX5_strikes_0 {E : EV} {Q : Po} {μ : Mem} {x0 : Nat} {x1 : Int32} (hk0 : kd x0 = 5) (h : (((μ.1 x0 1) ≤ 0 → Q (some (.int 0)) μ) ∧ (¬ (μ.1 x0 1) ≤ 0 → vp_in ((μ.1 x0 1) - 1) 60 ∧ (((¬ (μ.1 (x0 + 1) (((μ.1 x0 1) - 1).toNatClampNeg)) = (x1 ^^^ 1) → Q (some (.int 0)) μ) ∧ ((μ.1 (x0 + 1) (((μ.1 x0 1) - 1).toNatClampNeg)) = (x1 ^^^ 1) → Q (some (.int 1)) μ)))))) : Ex E MX5_strikes Q 0 [(0, .ref x0), (1, .int x1)] [] μ := by
  refine x_aload_n 0 rfl rfl (dk zX5_strikes 0 rfl) ?_
  refine gf5_1 rfl hk0 (dk zX5_strikes 1 rfl) ?_
  refine x_if_le (tgt := 28) (by decide) (dk zX5_strikes 2 rfl) (fun c1 => ?_) (fun c1 => ?_)
  · have hc1t := h.1 c1
    refine x_iconst (v := 0) (by decide) (dk zX5_strikes 16 rfl) ?_
    exact x_iret rfl rfl (dk zX5_strikes 17 rfl) hc1t
  · have hc1f := h.2 c1
    refine x_aload_n 0 rfl rfl (dk zX5_strikes 3 rfl) ?_
    refine gf5_0 (r := x0 + 1) rfl hk0 (sP0 _ hk0) (dk zX5_strikes 4 rfl) ?_
    refine x_aload_n 0 rfl rfl (dk zX5_strikes 5 rfl) ?_
    refine gf5_1 rfl hk0 (dk zX5_strikes 6 rfl) ?_
    refine x_iconst (v := 1) (by decide) (dk zX5_strikes 7 rfl) ?_
    refine x_isub (dk zX5_strikes 8 rfl) ?_
    have b2 := hc1f.1
    have hb2 := hc1f.2
    refine y_iald (j := ((μ.1 x0 1) - 1).toNatClampNeg) (sP0k _ hk0) (sP0l _ hk0) b2 rfl (dk zX5_strikes 9 rfl) ?_
    refine x_iload_n 1 rfl rfl (dk zX5_strikes 10 rfl) ?_
    refine x_iconst (v := 1) (by decide) (dk zX5_strikes 11 rfl) ?_
    refine x_ixor (dk zX5_strikes 12 rfl) ?_
    refine x_icmp_ne (tgt := 28) (by decide) (dk zX5_strikes 13 rfl) (fun c3 => ?_) (fun c3 => ?_)
    · have hc3t := hb2.1 c3
      refine x_iconst (v := 0) (by decide) (dk zX5_strikes 16 rfl) ?_
      exact x_iret rfl rfl (dk zX5_strikes 17 rfl) hc3t
    · have hc3f := hb2.2 c3
      refine x_iconst (v := 1) (by decide) (dk zX5_strikes 14 rfl) ?_
      refine x_goto (tgt := 29) (by decide) (dk zX5_strikes 15 rfl) ?_
      exact x_iret rfl rfl (dk zX5_strikes 17 rfl) hc3f
set_option maxRecDepth 20000 in
set_option maxHeartbeats 2000000 in
theorem gX5_stamp_0 {E : EV} {Q : Po} {μ : Mem} {x0 : Nat} {x1 : Int32} (hk0 : kd x0 = 5) (h : Sp E MX5_strikes [.ref x0, .int x1] μ (fun v m1 => ∃ r2 : Int32, v = some (.int r2) ∧ ((r2 = 0 → ((60 ≤ (m1.1 x0 1) → Q none m1) ∧ (¬ 60 ≤ (m1.1 x0 1) → vp_in (m1.1 x0 1) 60 ∧ (∀ v6 : Int32, v6 = ((mI m1 (x0 + 1) ((m1.1 x0 1).toNatClampNeg) x1).1 x0 1) + 1 → Q none (mI (mI m1 (x0 + 1) ((m1.1 x0 1).toNatClampNeg) x1) x0 1 v6))))) ∧ (¬ r2 = 0 → ∀ v7 : Int32, v7 = (m1.1 x0 1) - 1 → Q none (mI m1 x0 1 v7))))) : Ex E MX5_stamp Q 0 [(0, .ref x0), (1, .int x1)] [] μ := by
  refine x_aload_n 0 rfl rfl (dk zX5_stamp 0 rfl) ?_
  refine x_iload_n 1 rfl rfl (dk zX5_stamp 1 rfl) ?_
  refine x_callV (as := [.int x1]) (o := x0) (ci := 5) (st := []) rfl okRX5_19 npX5_strikes ⟨Nat.le_of_ble_eq_true rfl, Nat.le_of_ble_eq_true rfl⟩ hk0 (by decide) rfl (Nat.le_of_ble_eq_true rfl) (dk zX5_stamp 2 rfl) ?_
  refine h.mono ?_
  rintro _ m1 ⟨r2, rfl, hm1⟩
  show Ex E MX5_stamp Q 5 [(0, .ref x0), (1, .int x1)] [.int r2] m1
  refine x_if_eq (tgt := 21) (by decide) (dk zX5_stamp 3 rfl) (fun c3 => ?_) (fun c3 => ?_)
  · have hc3t := hm1.1 c3
    refine x_aload_n 0 rfl rfl (dk zX5_stamp 11 rfl) ?_
    refine gf5_1 rfl hk0 (dk zX5_stamp 12 rfl) ?_
    refine x_bipush (v := 60) (by decide) (dk zX5_stamp 13 rfl) ?_
    refine x_icmp_ge (tgt := 50) (by decide) (dk zX5_stamp 14 rfl) (fun c4 => ?_) (fun c4 => ?_)
    · have hc4t := hc3t.1 c4
      exact x_vret rfl (dk zX5_stamp 27 rfl) hc4t
    · have hc4f := hc3t.2 c4
      refine x_aload_n 0 rfl rfl (dk zX5_stamp 15 rfl) ?_
      refine gf5_0 (r := x0 + 1) rfl hk0 (sP0 _ hk0) (dk zX5_stamp 16 rfl) ?_
      refine x_aload_n 0 rfl rfl (dk zX5_stamp 17 rfl) ?_
      refine gf5_1 rfl hk0 (dk zX5_stamp 18 rfl) ?_
      refine x_iload_n 1 rfl rfl (dk zX5_stamp 19 rfl) ?_
      have b5 := hc4f.1
      have hb5 := hc4f.2
      refine y_iast (j := (m1.1 x0 1).toNatClampNeg) (sP0k _ hk0) (sP0l _ hk0) b5 rfl (dk zX5_stamp 20 rfl) ?_
      refine x_aload_n 0 rfl rfl (dk zX5_stamp 21 rfl) ?_
      refine x_dupr (dk zX5_stamp 22 rfl) ?_
      refine gf5_1 rfl hk0 (dk zX5_stamp 23 rfl) ?_
      refine x_iconst (v := 1) (by decide) (dk zX5_stamp 24 rfl) ?_
      refine x_iadd (dk zX5_stamp 25 rfl) ?_
      refine x_topi (fun v6 ev6 => ?_)
      have hv6 := hb5 v6 ev6
      refine pf5_1 rfl hk0 (dk zX5_stamp 26 rfl) ?_
      exact x_vret rfl (dk zX5_stamp 27 rfl) hv6
  · have hc3f := hm1.2 c3
    refine x_aload_n 0 rfl rfl (dk zX5_stamp 4 rfl) ?_
    refine x_dupr (dk zX5_stamp 5 rfl) ?_
    refine gf5_1 rfl hk0 (dk zX5_stamp 6 rfl) ?_
    refine x_iconst (v := 1) (by decide) (dk zX5_stamp 7 rfl) ?_
    refine x_isub (dk zX5_stamp 8 rfl) ?_
    refine x_topi (fun v7 ev7 => ?_)
    have hv7 := hc3f v7 ev7
    refine pf5_1 rfl hk0 (dk zX5_stamp 9 rfl) ?_
    refine x_goto (tgt := 50) (by decide) (dk zX5_stamp 10 rfl) ?_
    exact x_vret rfl (dk zX5_stamp 27 rfl) hv7
set_option maxRecDepth 20000 in
set_option maxHeartbeats 2000000 in
theorem gX5_at_0 {E : EV} {Q : Po} {μ : Mem} {x0 : Nat} {x1 : Int32} (hk0 : kd x0 = 5) (h : ((x1 < 0 → Q (some (.int ((-1)))) μ) ∧ (¬ x1 < 0 → (((μ.1 x0 1) ≤ x1 → Q (some (.int ((-1)))) μ) ∧ (¬ (μ.1 x0 1) ≤ x1 → vp_in x1 60 ∧ (Q (some (.int (μ.1 (x0 + 1) x1.toNatClampNeg))) μ)))))) : Ex E MX5_at Q 0 [(0, .ref x0), (1, .int x1)] [] μ := by
  refine x_iload_n 1 rfl rfl (dk zX5_at 0 rfl) ?_
  refine x_if_lt (tgt := 21) (by decide) (dk zX5_at 1 rfl) (fun c1 => ?_) (fun c1 => ?_)
  · have hc1t := h.1 c1
    refine x_iconst (v := -1) (by decide) (dk zX5_at 11 rfl) ?_
    exact x_iret (ty := .int) rfl rfl (dk zX5_at 12 rfl) hc1t
  · have hc1f := h.2 c1
    refine x_iload_n 1 rfl rfl (dk zX5_at 2 rfl) ?_
    refine x_aload_n 0 rfl rfl (dk zX5_at 3 rfl) ?_
    refine gf5_1 rfl hk0 (dk zX5_at 4 rfl) ?_
    refine x_icmp_ge (tgt := 21) (by decide) (dk zX5_at 5 rfl) (fun c2 => ?_) (fun c2 => ?_)
    · have hc2t := hc1f.1 c2
      refine x_iconst (v := -1) (by decide) (dk zX5_at 11 rfl) ?_
      exact x_iret (ty := .int) rfl rfl (dk zX5_at 12 rfl) hc2t
    · have hc2f := hc1f.2 c2
      refine x_aload_n 0 rfl rfl (dk zX5_at 6 rfl) ?_
      refine gf5_0 (r := x0 + 1) rfl hk0 (sP0 _ hk0) (dk zX5_at 7 rfl) ?_
      refine x_iload_n 1 rfl rfl (dk zX5_at 8 rfl) ?_
      have b3 := hc2f.1
      have hb3 := hc2f.2
      refine y_iald (j := x1.toNatClampNeg) (sP0k _ hk0) (sP0l _ hk0) b3 rfl (dk zX5_at 9 rfl) ?_
      refine x_goto (tgt := 22) (by decide) (dk zX5_at 10 rfl) ?_
      exact x_iret (ty := .int) rfl rfl (dk zX5_at 12 rfl) hb3
set_option maxRecDepth 20000 in
set_option maxHeartbeats 2000000 in
theorem gX5_empty_0 {E : EV} {Q : Po} {μ : Mem} {x0 : Nat} (hk0 : kd x0 = 5) (h : Q none (mI μ x0 1 0)) : Ex E MX5_empty Q 0 [(0, .ref x0)] [] μ := by
  refine x_aload_n 0 rfl rfl (dk zX5_empty 0 rfl) ?_
  refine x_iconst (v := 0) (by decide) (dk zX5_empty 1 rfl) ?_
  refine pf5_1 rfl hk0 (dk zX5_empty 2 rfl) ?_
  exact x_vret rfl (dk zX5_empty 3 rfl) h
set_option maxRecDepth 20000 in
set_option maxHeartbeats 2000000 in
theorem gX5_alike_0 {E : EV} {Q : Po} {μ : Mem} {x0 : Nat} {x1 : Nat} (hk0 : kd x0 = 5) (hk1 : kd x1 = 5) (h : Sp E MX5_size [.ref x1] μ (fun v m1 => ∃ r2 : Int32, v = some (.int r2) ∧ Sp E MJ9_min_7cf53 [.int (μ.1 x0 1), .int r2] m1 (fun v m3 => ∃ r4 : Int32, v = some (.int r4) ∧ Ex E MX5_alike Q 14 [(0, .ref x0), (1, .ref x1), (2, .int r4), (3, .int 0)] [] m3))) : Ex E MX5_alike Q 0 [(0, .ref x0), (1, .ref x1)] [] μ := by
  refine x_aload_n 0 rfl rfl (dk zX5_alike 0 rfl) ?_
  refine gf5_1 rfl hk0 (dk zX5_alike 1 rfl) ?_
  refine x_aload_n 1 rfl rfl (dk zX5_alike 2 rfl) ?_
  refine x_callV (as := []) (o := x1) (ci := 5) (st := [.int (μ.1 x0 1)]) rfl okRX5_23 npX5_size ⟨Nat.le_of_ble_eq_true rfl, Nat.le_of_ble_eq_true rfl⟩ hk1 (by decide) rfl (Nat.le_of_ble_eq_true rfl) (dk zX5_alike 3 rfl) ?_
  refine h.mono ?_
  rintro _ m1 ⟨r2, rfl, hm1⟩
  show Ex E MX5_alike Q 8 [(0, .ref x0), (1, .ref x1)] [.int r2, .int (μ.1 x0 1)] m1
  refine x_callS (as := [.int (μ.1 x0 1), .int r2]) (st := []) rfl okRX5_26 npJ9_min_7cf53 ⟨Nat.le_of_ble_eq_true rfl, Nat.le_of_ble_eq_true rfl⟩ (Nat.le_of_ble_eq_true rfl) (dk zX5_alike 4 rfl) ?_
  refine hm1.mono ?_
  rintro _ m3 ⟨r4, rfl, hm3⟩
  show Ex E MX5_alike Q 11 [(0, .ref x0), (1, .ref x1)] [.int r4] m3
  refine x_istore_n (k := 2) [1, 2, 0] rfl rfl (by decide) (dk zX5_alike 5 rfl) ?_
  refine x_iconst (v := 0) (by decide) (dk zX5_alike 6 rfl) ?_
  refine x_istore_n (k := 3) [1, 2, 3, 0] rfl rfl (by decide) (dk zX5_alike 7 rfl) ?_
  exact hm3
set_option maxRecDepth 20000 in
set_option maxHeartbeats 2000000 in
theorem gX5_alike_14 {E : EV} {Q : Po} {μ : Mem} {x0 : Nat} {x1 : Nat} {x2 : Int32} {x3 : Int32} (hk_x0 : kd x0 = 5) (hk_x1 : kd x1 = 5) (h : ((x2 ≤ x3 → Q (some (.int x2)) μ) ∧ (¬ x2 ≤ x3 → Sp E MX5_at [.ref x0, .int x3] μ (fun v m2 => ∃ r3 : Int32, v = some (.int r3) ∧ Sp E MX5_at [.ref x1, .int x3] m2 (fun v m4 => ∃ r5 : Int32, v = some (.int r5) ∧ ((r3 = r5 → ∀ v7 : Int32, v7 = x3 + 1 → Ex E MX5_alike Q 14 [(0, .ref x0), (1, .ref x1), (2, .int x2), (3, .int v7)] [] m4) ∧ (¬ r3 = r5 → Q (some (.int x3)) m4))))))) : Ex E MX5_alike Q 14 [(0, .ref x0), (1, .ref x1), (2, .int x2), (3, .int x3)] [] μ := by
  refine x_iload_n 3 rfl rfl (dk zX5_alike 8 rfl) ?_
  refine x_iload_n 2 rfl rfl (dk zX5_alike 9 rfl) ?_
  refine x_icmp_ge (tgt := 40) (by decide) (dk zX5_alike 10 rfl) (fun c1 => ?_) (fun c1 => ?_)
  · have hc1t := h.1 c1
    refine x_iload_n 2 rfl rfl (dk zX5_alike 22 rfl) ?_
    exact x_iret (ty := .int) rfl rfl (dk zX5_alike 23 rfl) hc1t
  · have hc1f := h.2 c1
    refine x_aload_n 0 rfl rfl (dk zX5_alike 11 rfl) ?_
    refine x_iload_n 3 rfl rfl (dk zX5_alike 12 rfl) ?_
    refine x_callV (as := [.int x3]) (o := x0) (ci := 5) (st := []) rfl okRX5_32 npX5_at ⟨Nat.le_of_ble_eq_true rfl, Nat.le_of_ble_eq_true rfl⟩ hk_x0 (by decide) rfl (Nat.le_of_ble_eq_true rfl) (dk zX5_alike 13 rfl) ?_
    refine hc1f.mono ?_
    rintro _ m2 ⟨r3, rfl, hm2⟩
    show Ex E MX5_alike Q 24 [(0, .ref x0), (1, .ref x1), (2, .int x2), (3, .int x3)] [.int r3] m2
    refine x_aload_n 1 rfl rfl (dk zX5_alike 14 rfl) ?_
    refine x_iload_n 3 rfl rfl (dk zX5_alike 15 rfl) ?_
    refine x_callV (as := [.int x3]) (o := x1) (ci := 5) (st := [.int r3]) rfl okRX5_32 npX5_at ⟨Nat.le_of_ble_eq_true rfl, Nat.le_of_ble_eq_true rfl⟩ hk_x1 (by decide) rfl (Nat.le_of_ble_eq_true rfl) (dk zX5_alike 16 rfl) ?_
    refine hm2.mono ?_
    rintro _ m4 ⟨r5, rfl, hm4⟩
    show Ex E MX5_alike Q 29 [(0, .ref x0), (1, .ref x1), (2, .int x2), (3, .int x3)] [.int r5, .int r3] m4
    refine x_icmp_eq (tgt := 34) (by decide) (dk zX5_alike 17 rfl) (fun c6 => ?_) (fun c6 => ?_)
    · have hc6t := hm4.1 c6
      obtain ⟨v7, ev7⟩ : ∃ y : Int32, y = x3 + 1 := ⟨_, rfl⟩
      have hv7 := hc6t v7 ev7
      refine x_iinc (v := v7) 3 rfl (by rw [ev7]; rfl) [1, 2, 3, 0] rfl (by decide) (dk zX5_alike 20 rfl) ?_
      refine x_goto (tgt := 14) (by decide) (dk zX5_alike 21 rfl) ?_
      exact hv7
    · have hc6f := hm4.2 c6
      refine x_iload_n 3 rfl rfl (dk zX5_alike 18 rfl) ?_
      exact x_iret (ty := .int) rfl rfl (dk zX5_alike 19 rfl) hc6f
set_option maxRecDepth 20000 in
set_option maxHeartbeats 2000000 in
theorem gX7_find_0 {E : EV} {Q : Po} {μ : Mem} {x1 : Int32} (h : Q (some (.int (((-10)) - x1))) (mI μ 107 3 x1)) : Ex E MX7_find Q 0 [(0, .ref 107), (1, .int x1)] [] μ := by
  refine x_aload_n 0 rfl rfl (dk zX7_find 0 rfl) ?_
  refine x_iload_n 1 rfl rfl (dk zX7_find 1 rfl) ?_
  refine pf7_3 rfl k107 (dk zX7_find 2 rfl) ?_
  refine x_bipush (v := -10) (by decide) (dk zX7_find 3 rfl) ?_
  refine x_iload_n 1 rfl rfl (dk zX7_find 4 rfl) ?_
  refine x_isub (dk zX7_find 5 rfl) ?_
  exact x_iret (ty := .int) rfl rfl (dk zX7_find 6 rfl) h
set_option maxRecDepth 20000 in
set_option maxHeartbeats 2000000 in
theorem gX7_latestFinding_0 {E : EV} {Q : Po} {μ : Mem}  (h : Q (some (.int (μ.1 107 3))) μ) : Ex E MX7_latestFinding Q 0 [(0, .ref 107)] [] μ := by
  refine x_aload_n 0 rfl rfl (dk zX7_latestFinding 0 rfl) ?_
  refine gf7_3 rfl k107 (dk zX7_latestFinding 1 rfl) ?_
  exact x_iret (ty := .int) rfl rfl (dk zX7_latestFinding 2 rfl) h
set_option maxRecDepth 20000 in
set_option maxHeartbeats 2000000 in
theorem gX7_isLost_0 {E : EV} {Q : Po} {μ : Mem} {x1 : Int32} (h : vp_in x1 4 ∧ (((¬ (μ.1 114 x1.toNatClampNeg) = ((-1)) → Q (some (.int 0)) μ) ∧ ((μ.1 114 x1.toNatClampNeg) = ((-1)) → Q (some (.int 1)) μ)))) : Ex E MX7_isLost Q 0 [(0, .ref 107), (1, .int x1)] [] μ := by
  refine x_aload_n 0 rfl rfl (dk zX7_isLost 0 rfl) ?_
  refine gf7_2 (r := 114) rfl k107 r107_2 (dk zX7_isLost 1 rfl) ?_
  refine x_iload_n 1 rfl rfl (dk zX7_isLost 2 rfl) ?_
  have b1 := h.1
  have hb1 := h.2
  refine y_iald (j := x1.toNatClampNeg) k114 l114 b1 rfl (dk zX7_isLost 3 rfl) ?_
  refine x_iconst (v := -1) (by decide) (dk zX7_isLost 4 rfl) ?_
  refine x_icmp_ne (tgt := 14) (by decide) (dk zX7_isLost 5 rfl) (fun c2 => ?_) (fun c2 => ?_)
  · have hc2t := hb1.1 c2
    refine x_iconst (v := 0) (by decide) (dk zX7_isLost 8 rfl) ?_
    exact x_iret rfl rfl (dk zX7_isLost 9 rfl) hc2t
  · have hc2f := hb1.2 c2
    refine x_iconst (v := 1) (by decide) (dk zX7_isLost 6 rfl) ?_
    refine x_goto (tgt := 15) (by decide) (dk zX7_isLost 7 rfl) ?_
    exact x_iret rfl rfl (dk zX7_isLost 9 rfl) hc2f
set_option maxRecDepth 20000 in
set_option maxHeartbeats 2000000 in
theorem gX7_size_0 {E : EV} {Q : Po} {μ : Mem} {x1 : Int32} (h : vp_in x1 4 ∧ (Q (some (.int (μ.1 113 x1.toNatClampNeg))) μ)) : Ex E MX7_size Q 0 [(0, .ref 107), (1, .int x1)] [] μ := by
  refine x_aload_n 0 rfl rfl (dk zX7_size 0 rfl) ?_
  refine gf7_1 (r := 113) rfl k107 r107_1 (dk zX7_size 1 rfl) ?_
  refine x_iload_n 1 rfl rfl (dk zX7_size 2 rfl) ?_
  have b1 := h.1
  have hb1 := h.2
  refine y_iald (j := x1.toNatClampNeg) k113 l113 b1 rfl (dk zX7_size 3 rfl) ?_
  exact x_iret (ty := .int) rfl rfl (dk zX7_size 4 rfl) hb1
set_option maxRecDepth 20000 in
set_option maxHeartbeats 2000000 in
theorem gX7_make_0 {E : EV} {Q : Po} {μ : Mem} {x1 : Int32} {x2 : Int32} {x3 : Int32} (h : vp_in x1 4 ∧ (Sp E MJ7_fill_53178 [.ref (109 + x1.toNatClampNeg), .int 0] (mI (mI μ 114 x1.toNatClampNeg x2) 113 x1.toNatClampNeg x3) (fun v m2 => v = none ∧ Q none m2))) : Ex E MX7_make Q 0 [(0, .ref 107), (1, .int x1), (2, .int x2), (3, .int x3)] [] μ := by
  refine x_aload_n 0 rfl rfl (dk zX7_make 0 rfl) ?_
  refine gf7_2 (r := 114) rfl k107 r107_2 (dk zX7_make 1 rfl) ?_
  refine x_iload_n 1 rfl rfl (dk zX7_make 2 rfl) ?_
  refine x_iload_n 2 rfl rfl (dk zX7_make 3 rfl) ?_
  have b1 := h.1
  have hb1 := h.2
  refine y_iast (j := x1.toNatClampNeg) k114 l114 b1 rfl (dk zX7_make 4 rfl) ?_
  refine x_aload_n 0 rfl rfl (dk zX7_make 5 rfl) ?_
  refine gf7_1 (r := 113) rfl k107 r107_1 (dk zX7_make 6 rfl) ?_
  refine x_iload_n 1 rfl rfl (dk zX7_make 7 rfl) ?_
  refine x_iload_n 3 rfl rfl (dk zX7_make 8 rfl) ?_
  refine y_iast (j := x1.toNatClampNeg) k113 l113 b1 rfl (dk zX7_make 9 rfl) ?_
  refine x_aload_n 0 rfl rfl (dk zX7_make 10 rfl) ?_
  refine gf7_0 (r := 108) rfl k107 r107_0 (dk zX7_make 11 rfl) ?_
  refine x_iload_n 1 rfl rfl (dk zX7_make 12 rfl) ?_
  refine y_aaldI (b := 109 + x1.toNatClampNeg) k108 l108 b1 (by omega) (dk zX7_make 13 rfl) ?_
  refine x_iconst (v := 0) (by decide) (dk zX7_make 14 rfl) ?_
  refine x_callS (as := [.ref (109 + x1.toNatClampNeg), .int 0]) (st := []) rfl okRX7_23 npJ7_fill_53178 ⟨Nat.le_of_ble_eq_true rfl, Nat.le_of_ble_eq_true rfl⟩ (Nat.le_of_ble_eq_true rfl) (dk zX7_make 15 rfl) ?_
  refine hb1.mono ?_
  rintro _ m2 ⟨rfl, hm2⟩
  show Ex E MX7_make Q 24 [(0, .ref 107), (1, .int x1), (2, .int x2), (3, .int x3)] [] m2
  exact x_vret rfl (dk zX7_make 16 rfl) hm2
set_option maxRecDepth 20000 in
set_option maxHeartbeats 2000000 in
theorem gX7_drop_0 {E : EV} {Q : Po} {μ : Mem} {x1 : Int32} (h : vp_in x1 4 ∧ (Q none (mI (mI μ 114 x1.toNatClampNeg ((-1))) 113 x1.toNatClampNeg 0))) : Ex E MX7_drop Q 0 [(0, .ref 107), (1, .int x1)] [] μ := by
  refine x_aload_n 0 rfl rfl (dk zX7_drop 0 rfl) ?_
  refine gf7_2 (r := 114) rfl k107 r107_2 (dk zX7_drop 1 rfl) ?_
  refine x_iload_n 1 rfl rfl (dk zX7_drop 2 rfl) ?_
  refine x_iconst (v := -1) (by decide) (dk zX7_drop 3 rfl) ?_
  have b1 := h.1
  have hb1 := h.2
  refine y_iast (j := x1.toNatClampNeg) k114 l114 b1 rfl (dk zX7_drop 4 rfl) ?_
  refine x_aload_n 0 rfl rfl (dk zX7_drop 5 rfl) ?_
  refine gf7_1 (r := 113) rfl k107 r107_1 (dk zX7_drop 6 rfl) ?_
  refine x_iload_n 1 rfl rfl (dk zX7_drop 7 rfl) ?_
  refine x_iconst (v := 0) (by decide) (dk zX7_drop 8 rfl) ?_
  refine y_iast (j := x1.toNatClampNeg) k113 l113 b1 rfl (dk zX7_drop 9 rfl) ?_
  exact x_vret rfl (dk zX7_drop 10 rfl) hb1
set_option maxRecDepth 20000 in
set_option maxHeartbeats 2000000 in
theorem gX7_findingAt_0 {E : EV} {Q : Po} {μ : Mem} {x1 : Int32} {x2 : Int32} {x3 : Int32} (h : Sp E MX7_isLost [.ref 107, .int x1] μ (fun v m1 => ∃ r2 : Int32, v = some (.int r2) ∧ ((r2 = 0 → vp_in x1 4 ∧ ((((m1.1 114 x1.toNatClampNeg) = x2 → ((x3 < 0 → Q (some (.int 2)) m1) ∧ (¬ x3 < 0 → ((x3 < (m1.1 113 x1.toNatClampNeg) → Q (some (.int 0)) m1) ∧ (¬ x3 < (m1.1 113 x1.toNatClampNeg) → Q (some (.int 2)) m1))))) ∧ (¬ (m1.1 114 x1.toNatClampNeg) = x2 → Q (some (.int 3)) m1)))) ∧ (¬ r2 = 0 → Q (some (.int 1)) m1)))) : Ex E MX7_findingAt Q 0 [(0, .ref 107), (1, .int x1), (2, .int x2), (3, .int x3)] [] μ := by
  refine x_aload_n 0 rfl rfl (dk zX7_findingAt 0 rfl) ?_
  refine x_iload_n 1 rfl rfl (dk zX7_findingAt 1 rfl) ?_
  refine x_callV (as := [.int x1]) (o := 107) (ci := 7) (st := []) rfl okRX7_33 npX7_isLost ⟨Nat.le_of_ble_eq_true rfl, Nat.le_of_ble_eq_true rfl⟩ k107 (by decide) rfl (Nat.le_of_ble_eq_true rfl) (dk zX7_findingAt 2 rfl) ?_
  refine h.mono ?_
  rintro _ m1 ⟨r2, rfl, hm1⟩
  show Ex E MX7_findingAt Q 5 [(0, .ref 107), (1, .int x1), (2, .int x2), (3, .int x3)] [.int r2] m1
  refine x_if_eq (tgt := 10) (by decide) (dk zX7_findingAt 3 rfl) (fun c3 => ?_) (fun c3 => ?_)
  · have hc3t := hm1.1 c3
    refine x_aload_n 0 rfl rfl (dk zX7_findingAt 6 rfl) ?_
    refine gf7_2 (r := 114) rfl k107 r107_2 (dk zX7_findingAt 7 rfl) ?_
    refine x_iload_n 1 rfl rfl (dk zX7_findingAt 8 rfl) ?_
    have b4 := hc3t.1
    have hb4 := hc3t.2
    refine y_iald (j := x1.toNatClampNeg) k114 l114 b4 rfl (dk zX7_findingAt 9 rfl) ?_
    refine x_iload_n 2 rfl rfl (dk zX7_findingAt 10 rfl) ?_
    refine x_icmp_eq (tgt := 22) (by decide) (dk zX7_findingAt 11 rfl) (fun c5 => ?_) (fun c5 => ?_)
    · have hc5t := hb4.1 c5
      refine x_iload_n 3 rfl rfl (dk zX7_findingAt 14 rfl) ?_
      refine x_if_lt (tgt := 36) (by decide) (dk zX7_findingAt 15 rfl) (fun c6 => ?_) (fun c6 => ?_)
      · have hc6t := hc5t.1 c6
        refine x_iconst (v := 2) (by decide) (dk zX7_findingAt 22 rfl) ?_
        refine x_goto (tgt := 41) (by decide) (dk zX7_findingAt 23 rfl) ?_
        exact x_iret (ty := .int) rfl rfl (dk zX7_findingAt 25 rfl) hc6t
      · have hc6f := hc5t.2 c6
        refine x_iload_n 3 rfl rfl (dk zX7_findingAt 16 rfl) ?_
        refine x_aload_n 0 rfl rfl (dk zX7_findingAt 17 rfl) ?_
        refine gf7_1 (r := 113) rfl k107 r107_1 (dk zX7_findingAt 18 rfl) ?_
        refine x_iload_n 1 rfl rfl (dk zX7_findingAt 19 rfl) ?_
        refine y_iald (j := x1.toNatClampNeg) k113 l113 b4 rfl (dk zX7_findingAt 20 rfl) ?_
        refine x_icmp_lt (tgt := 40) (by decide) (dk zX7_findingAt 21 rfl) (fun c7 => ?_) (fun c7 => ?_)
        · have hc7t := hc6f.1 c7
          refine x_iconst (v := 0) (by decide) (dk zX7_findingAt 24 rfl) ?_
          exact x_iret (ty := .int) rfl rfl (dk zX7_findingAt 25 rfl) hc7t
        · have hc7f := hc6f.2 c7
          refine x_iconst (v := 2) (by decide) (dk zX7_findingAt 22 rfl) ?_
          refine x_goto (tgt := 41) (by decide) (dk zX7_findingAt 23 rfl) ?_
          exact x_iret (ty := .int) rfl rfl (dk zX7_findingAt 25 rfl) hc7f
    · have hc5f := hb4.2 c5
      refine x_iconst (v := 3) (by decide) (dk zX7_findingAt 12 rfl) ?_
      exact x_iret (ty := .int) rfl rfl (dk zX7_findingAt 13 rfl) hc5f
  · have hc3f := hm1.2 c3
    refine x_iconst (v := 1) (by decide) (dk zX7_findingAt 4 rfl) ?_
    exact x_iret (ty := .int) rfl rfl (dk zX7_findingAt 5 rfl) hc3f
set_option maxRecDepth 20000 in
set_option maxHeartbeats 2000000 in
theorem gX7_hasRun_0 {E : EV} {Q : Po} {μ : Mem} {x1 : Int32} {x2 : Int32} {x3 : Int32} (h : ((x2 < 0 → Q (some (.int 0)) μ) ∧ (¬ x2 < 0 → ((x3 < 0 → Q (some (.int 0)) μ) ∧ (¬ x3 < 0 → vp_in x1 4 ∧ ((((μ.1 113 x1.toNatClampNeg) < x2 → Q (some (.int 0)) μ) ∧ (¬ (μ.1 113 x1.toNatClampNeg) < x2 → ((((μ.1 113 x1.toNatClampNeg) - x2) < x3 → Q (some (.int 0)) μ) ∧ (¬ ((μ.1 113 x1.toNatClampNeg) - x2) < x3 → Q (some (.int 1)) μ)))))))))) : Ex E MX7_hasRun Q 0 [(0, .ref 107), (1, .int x1), (2, .int x2), (3, .int x3)] [] μ := by
  refine x_iload_n 2 rfl rfl (dk zX7_hasRun 0 rfl) ?_
  refine x_if_lt (tgt := 34) (by decide) (dk zX7_hasRun 1 rfl) (fun c1 => ?_) (fun c1 => ?_)
  · have hc1t := h.1 c1
    refine x_iconst (v := 0) (by decide) (dk zX7_hasRun 20 rfl) ?_
    exact x_iret rfl rfl (dk zX7_hasRun 21 rfl) hc1t
  · have hc1f := h.2 c1
    refine x_iload_n 3 rfl rfl (dk zX7_hasRun 2 rfl) ?_
    refine x_if_lt (tgt := 34) (by decide) (dk zX7_hasRun 3 rfl) (fun c2 => ?_) (fun c2 => ?_)
    · have hc2t := hc1f.1 c2
      refine x_iconst (v := 0) (by decide) (dk zX7_hasRun 20 rfl) ?_
      exact x_iret rfl rfl (dk zX7_hasRun 21 rfl) hc2t
    · have hc2f := hc1f.2 c2
      refine x_iload_n 2 rfl rfl (dk zX7_hasRun 4 rfl) ?_
      refine x_aload_n 0 rfl rfl (dk zX7_hasRun 5 rfl) ?_
      refine gf7_1 (r := 113) rfl k107 r107_1 (dk zX7_hasRun 6 rfl) ?_
      refine x_iload_n 1 rfl rfl (dk zX7_hasRun 7 rfl) ?_
      have b3 := hc2f.1
      have hb3 := hc2f.2
      refine y_iald (j := x1.toNatClampNeg) k113 l113 b3 rfl (dk zX7_hasRun 8 rfl) ?_
      refine x_icmp_gt (tgt := 34) (by decide) (dk zX7_hasRun 9 rfl) (fun c4 => ?_) (fun c4 => ?_)
      · have hc4t := hb3.1 c4
        refine x_iconst (v := 0) (by decide) (dk zX7_hasRun 20 rfl) ?_
        exact x_iret rfl rfl (dk zX7_hasRun 21 rfl) hc4t
      · have hc4f := hb3.2 c4
        refine x_iload_n 3 rfl rfl (dk zX7_hasRun 10 rfl) ?_
        refine x_aload_n 0 rfl rfl (dk zX7_hasRun 11 rfl) ?_
        refine gf7_1 (r := 113) rfl k107 r107_1 (dk zX7_hasRun 12 rfl) ?_
        refine x_iload_n 1 rfl rfl (dk zX7_hasRun 13 rfl) ?_
        refine y_iald (j := x1.toNatClampNeg) k113 l113 b3 rfl (dk zX7_hasRun 14 rfl) ?_
        refine x_iload_n 2 rfl rfl (dk zX7_hasRun 15 rfl) ?_
        refine x_isub (dk zX7_hasRun 16 rfl) ?_
        refine x_icmp_gt (tgt := 34) (by decide) (dk zX7_hasRun 17 rfl) (fun c5 => ?_) (fun c5 => ?_)
        · have hc5t := hc4f.1 c5
          refine x_iconst (v := 0) (by decide) (dk zX7_hasRun 20 rfl) ?_
          exact x_iret rfl rfl (dk zX7_hasRun 21 rfl) hc5t
        · have hc5f := hc4f.2 c5
          refine x_iconst (v := 1) (by decide) (dk zX7_hasRun 18 rfl) ?_
          refine x_goto (tgt := 35) (by decide) (dk zX7_hasRun 19 rfl) ?_
          exact x_iret rfl rfl (dk zX7_hasRun 21 rfl) hc5f
set_option maxRecDepth 20000 in
set_option maxHeartbeats 2000000 in
theorem gX7_findingOfCopy_0 {E : EV} {Q : Po} {μ : Mem} {x1 : Int32} {x2 : Int32} {x3 : Int32} {x4 : Int32} {x5 : Int32} (h : Sp E MX7_isLost [.ref 107, .int x1] μ (fun v m1 => ∃ r2 : Int32, v = some (.int r2) ∧ ((¬ r2 = 0 → Q (some (.int 1)) m1) ∧ (r2 = 0 → Sp E MX7_isLost [.ref 107, .int x3] m1 (fun v m4 => ∃ r5 : Int32, v = some (.int r5) ∧ ((r5 = 0 → vp_in x1 4 ∧ (vp_in x3 4 ∧ ((((m4.1 114 x1.toNatClampNeg) = (m4.1 114 x3.toNatClampNeg) → Sp E MX7_hasRun [.ref 107, .int x1, .int x2, .int x5] m4 (fun v m10 => ∃ r11 : Int32, v = some (.int r11) ∧ ((r11 = 0 → Q (some (.int 2)) m10) ∧ (¬ r11 = 0 → Sp E MX7_hasRun [.ref 107, .int x3, .int x4, .int x5] m10 (fun v m13 => ∃ r14 : Int32, v = some (.int r14) ∧ ((r14 = 0 → Q (some (.int 2)) m13) ∧ (¬ r14 = 0 → Q (some (.int 0)) m13))))))) ∧ (¬ (m4.1 114 x1.toNatClampNeg) = (m4.1 114 x3.toNatClampNeg) → Q (some (.int 4)) m4))))) ∧ (¬ r5 = 0 → Q (some (.int 1)) m4))))))) : Ex E MX7_findingOfCopy Q 0 [(0, .ref 107), (1, .int x1), (2, .int x2), (3, .int x3), (4, .int x4), (5, .int x5)] [] μ := by
  refine x_aload_n 0 rfl rfl (dk zX7_findingOfCopy 0 rfl) ?_
  refine x_iload_n 1 rfl rfl (dk zX7_findingOfCopy 1 rfl) ?_
  refine x_callV (as := [.int x1]) (o := 107) (ci := 7) (st := []) rfl okRX7_33 npX7_isLost ⟨Nat.le_of_ble_eq_true rfl, Nat.le_of_ble_eq_true rfl⟩ k107 (by decide) rfl (Nat.le_of_ble_eq_true rfl) (dk zX7_findingOfCopy 2 rfl) ?_
  refine h.mono ?_
  rintro _ m1 ⟨r2, rfl, hm1⟩
  show Ex E MX7_findingOfCopy Q 5 [(0, .ref 107), (1, .int x1), (2, .int x2), (3, .int x3), (4, .int x4), (5, .int x5)] [.int r2] m1
  refine x_if_ne (tgt := 16) (by decide) (dk zX7_findingOfCopy 3 rfl) (fun c3 => ?_) (fun c3 => ?_)
  · have hc3t := hm1.1 c3
    refine x_iconst (v := 1) (by decide) (dk zX7_findingOfCopy 8 rfl) ?_
    exact x_iret (ty := .int) rfl rfl (dk zX7_findingOfCopy 9 rfl) hc3t
  · have hc3f := hm1.2 c3
    refine x_aload_n 0 rfl rfl (dk zX7_findingOfCopy 4 rfl) ?_
    refine x_iload_n 3 rfl rfl (dk zX7_findingOfCopy 5 rfl) ?_
    refine x_callV (as := [.int x3]) (o := 107) (ci := 7) (st := []) rfl okRX7_33 npX7_isLost ⟨Nat.le_of_ble_eq_true rfl, Nat.le_of_ble_eq_true rfl⟩ k107 (by decide) rfl (Nat.le_of_ble_eq_true rfl) (dk zX7_findingOfCopy 6 rfl) ?_
    refine hc3f.mono ?_
    rintro _ m4 ⟨r5, rfl, hm4⟩
    show Ex E MX7_findingOfCopy Q 13 [(0, .ref 107), (1, .int x1), (2, .int x2), (3, .int x3), (4, .int x4), (5, .int x5)] [.int r5] m4
    refine x_if_eq (tgt := 18) (by decide) (dk zX7_findingOfCopy 7 rfl) (fun c6 => ?_) (fun c6 => ?_)
    · have hc6t := hm4.1 c6
      refine x_aload_n 0 rfl rfl (dk zX7_findingOfCopy 10 rfl) ?_
      refine gf7_2 (r := 114) rfl k107 r107_2 (dk zX7_findingOfCopy 11 rfl) ?_
      refine x_iload_n 1 rfl rfl (dk zX7_findingOfCopy 12 rfl) ?_
      have b7 := hc6t.1
      have hb7 := hc6t.2
      refine y_iald (j := x1.toNatClampNeg) k114 l114 b7 rfl (dk zX7_findingOfCopy 13 rfl) ?_
      refine x_aload_n 0 rfl rfl (dk zX7_findingOfCopy 14 rfl) ?_
      refine gf7_2 (r := 114) rfl k107 r107_2 (dk zX7_findingOfCopy 15 rfl) ?_
      refine x_iload_n 3 rfl rfl (dk zX7_findingOfCopy 16 rfl) ?_
      have b8 := hb7.1
      have hb8 := hb7.2
      refine y_iald (j := x3.toNatClampNeg) k114 l114 b8 rfl (dk zX7_findingOfCopy 17 rfl) ?_
      refine x_icmp_eq (tgt := 35) (by decide) (dk zX7_findingOfCopy 18 rfl) (fun c9 => ?_) (fun c9 => ?_)
      · have hc9t := hb8.1 c9
        refine x_aload_n 0 rfl rfl (dk zX7_findingOfCopy 21 rfl) ?_
        refine x_iload_n 1 rfl rfl (dk zX7_findingOfCopy 22 rfl) ?_
        refine x_iload_n 2 rfl rfl (dk zX7_findingOfCopy 23 rfl) ?_
        refine x_iload 5 rfl (dk zX7_findingOfCopy 24 rfl) ?_
        refine x_callV (as := [.int x1, .int x2, .int x5]) (o := 107) (ci := 7) (st := []) rfl okRX7_37 npX7_hasRun ⟨Nat.le_of_ble_eq_true rfl, Nat.le_of_ble_eq_true rfl⟩ k107 (by decide) rfl (Nat.le_of_ble_eq_true rfl) (dk zX7_findingOfCopy 25 rfl) ?_
        refine hc9t.mono ?_
        rintro _ m10 ⟨r11, rfl, hm10⟩
        show Ex E MX7_findingOfCopy Q 43 [(0, .ref 107), (1, .int x1), (2, .int x2), (3, .int x3), (4, .int x4), (5, .int x5)] [.int r11] m10
        refine x_if_eq (tgt := 62) (by decide) (dk zX7_findingOfCopy 26 rfl) (fun c12 => ?_) (fun c12 => ?_)
        · have hc12t := hm10.1 c12
          refine x_iconst (v := 2) (by decide) (dk zX7_findingOfCopy 35 rfl) ?_
          exact x_iret (ty := .int) rfl rfl (dk zX7_findingOfCopy 36 rfl) hc12t
        · have hc12f := hm10.2 c12
          refine x_aload_n 0 rfl rfl (dk zX7_findingOfCopy 27 rfl) ?_
          refine x_iload_n 3 rfl rfl (dk zX7_findingOfCopy 28 rfl) ?_
          refine x_iload 4 rfl (dk zX7_findingOfCopy 29 rfl) ?_
          refine x_iload 5 rfl (dk zX7_findingOfCopy 30 rfl) ?_
          refine x_callV (as := [.int x3, .int x4, .int x5]) (o := 107) (ci := 7) (st := []) rfl okRX7_37 npX7_hasRun ⟨Nat.le_of_ble_eq_true rfl, Nat.le_of_ble_eq_true rfl⟩ k107 (by decide) rfl (Nat.le_of_ble_eq_true rfl) (dk zX7_findingOfCopy 31 rfl) ?_
          refine hc12f.mono ?_
          rintro _ m13 ⟨r14, rfl, hm13⟩
          show Ex E MX7_findingOfCopy Q 55 [(0, .ref 107), (1, .int x1), (2, .int x2), (3, .int x3), (4, .int x4), (5, .int x5)] [.int r14] m13
          refine x_if_eq (tgt := 62) (by decide) (dk zX7_findingOfCopy 32 rfl) (fun c15 => ?_) (fun c15 => ?_)
          · have hc15t := hm13.1 c15
            refine x_iconst (v := 2) (by decide) (dk zX7_findingOfCopy 35 rfl) ?_
            exact x_iret (ty := .int) rfl rfl (dk zX7_findingOfCopy 36 rfl) hc15t
          · have hc15f := hm13.2 c15
            refine x_iconst (v := 0) (by decide) (dk zX7_findingOfCopy 33 rfl) ?_
            refine x_goto (tgt := 63) (by decide) (dk zX7_findingOfCopy 34 rfl) ?_
            exact x_iret (ty := .int) rfl rfl (dk zX7_findingOfCopy 36 rfl) hc15f
      · have hc9f := hb8.2 c9
        refine x_iconst (v := 4) (by decide) (dk zX7_findingOfCopy 19 rfl) ?_
        exact x_iret (ty := .int) rfl rfl (dk zX7_findingOfCopy 20 rfl) hc9f
    · have hc6f := hm4.2 c6
      refine x_iconst (v := 1) (by decide) (dk zX7_findingOfCopy 8 rfl) ?_
      exact x_iret (ty := .int) rfl rfl (dk zX7_findingOfCopy 9 rfl) hc6f
set_option maxRecDepth 20000 in
set_option maxHeartbeats 2000000 in
theorem gX7_item_0 {E : EV} {Q : Po} {μ : Mem} {x1 : Int32} {x2 : Int32} (h : ((x2 < 0 → Q (some (.int 0)) μ) ∧ (¬ x2 < 0 → vp_in x1 4 ∧ ((((μ.1 113 x1.toNatClampNeg) ≤ x2 → Q (some (.int 0)) μ) ∧ (¬ (μ.1 113 x1.toNatClampNeg) ≤ x2 → vp_in x2 60 ∧ (Q (some (.int (μ.1 (109 + x1.toNatClampNeg) x2.toNatClampNeg))) μ))))))) : Ex E MX7_item Q 0 [(0, .ref 107), (1, .int x1), (2, .int x2)] [] μ := by
  refine x_iload_n 2 rfl rfl (dk zX7_item 0 rfl) ?_
  refine x_if_lt (tgt := 25) (by decide) (dk zX7_item 1 rfl) (fun c1 => ?_) (fun c1 => ?_)
  · have hc1t := h.1 c1
    refine x_iconst (v := 0) (by decide) (dk zX7_item 15 rfl) ?_
    exact x_iret (ty := .int) rfl rfl (dk zX7_item 16 rfl) hc1t
  · have hc1f := h.2 c1
    refine x_iload_n 2 rfl rfl (dk zX7_item 2 rfl) ?_
    refine x_aload_n 0 rfl rfl (dk zX7_item 3 rfl) ?_
    refine gf7_1 (r := 113) rfl k107 r107_1 (dk zX7_item 4 rfl) ?_
    refine x_iload_n 1 rfl rfl (dk zX7_item 5 rfl) ?_
    have b2 := hc1f.1
    have hb2 := hc1f.2
    refine y_iald (j := x1.toNatClampNeg) k113 l113 b2 rfl (dk zX7_item 6 rfl) ?_
    refine x_icmp_ge (tgt := 25) (by decide) (dk zX7_item 7 rfl) (fun c3 => ?_) (fun c3 => ?_)
    · have hc3t := hb2.1 c3
      refine x_iconst (v := 0) (by decide) (dk zX7_item 15 rfl) ?_
      exact x_iret (ty := .int) rfl rfl (dk zX7_item 16 rfl) hc3t
    · have hc3f := hb2.2 c3
      refine x_aload_n 0 rfl rfl (dk zX7_item 8 rfl) ?_
      refine gf7_0 (r := 108) rfl k107 r107_0 (dk zX7_item 9 rfl) ?_
      refine x_iload_n 1 rfl rfl (dk zX7_item 10 rfl) ?_
      refine y_aaldI (b := 109 + x1.toNatClampNeg) k108 l108 b2 (by omega) (dk zX7_item 11 rfl) ?_
      refine x_iload_n 2 rfl rfl (dk zX7_item 12 rfl) ?_
      have b4 := hc3f.1
      have hb4 := hc3f.2
      refine y_iald (j := x2.toNatClampNeg) (sShk b2) (sShl b2) b4 rfl (dk zX7_item 13 rfl) ?_
      refine x_goto (tgt := 26) (by decide) (dk zX7_item 14 rfl) ?_
      exact x_iret (ty := .int) rfl rfl (dk zX7_item 16 rfl) hb4
set_option maxRecDepth 20000 in
set_option maxHeartbeats 2000000 in
theorem gX7_put_0 {E : EV} {Q : Po} {μ : Mem} {x1 : Int32} {x2 : Int32} {x3 : Int32} (h : ((x2 < 0 → Q none μ) ∧ (¬ x2 < 0 → vp_in x1 4 ∧ (((x2 < (μ.1 113 x1.toNatClampNeg) → ((¬ (μ.1 114 x1.toNatClampNeg) = 0 → ((¬ (μ.1 114 x1.toNatClampNeg) = 1 → vp_in x2 60 ∧ (Q none (mI μ (109 + x1.toNatClampNeg) x2.toNatClampNeg x3))) ∧ ((μ.1 114 x1.toNatClampNeg) = 1 → ∀ v7 : Int32, v7 = (Int32.toInt16 x3).toInt32 → vp_in x2 60 ∧ (Q none (mI μ (109 + x1.toNatClampNeg) x2.toNatClampNeg v7))))) ∧ ((μ.1 114 x1.toNatClampNeg) = 0 → ∀ v9 : Int32, v9 = (Int32.toInt8 x3).toInt32 → vp_in x2 60 ∧ (Q none (mI μ (109 + x1.toNatClampNeg) x2.toNatClampNeg v9))))) ∧ (¬ x2 < (μ.1 113 x1.toNatClampNeg) → Q none μ)))))) : Ex E MX7_put Q 0 [(0, .ref 107), (1, .int x1), (2, .int x2), (3, .int x3)] [] μ := by
  refine x_iload_n 2 rfl rfl (dk zX7_put 0 rfl) ?_
  refine x_if_lt (tgt := 14) (by decide) (dk zX7_put 1 rfl) (fun c1 => ?_) (fun c1 => ?_)
  · have hc1t := h.1 c1
    exact x_vret rfl (dk zX7_put 8 rfl) hc1t
  · have hc1f := h.2 c1
    refine x_iload_n 2 rfl rfl (dk zX7_put 2 rfl) ?_
    refine x_aload_n 0 rfl rfl (dk zX7_put 3 rfl) ?_
    refine gf7_1 (r := 113) rfl k107 r107_1 (dk zX7_put 4 rfl) ?_
    refine x_iload_n 1 rfl rfl (dk zX7_put 5 rfl) ?_
    have b2 := hc1f.1
    have hb2 := hc1f.2
    refine y_iald (j := x1.toNatClampNeg) k113 l113 b2 rfl (dk zX7_put 6 rfl) ?_
    refine x_icmp_lt (tgt := 15) (by decide) (dk zX7_put 7 rfl) (fun c3 => ?_) (fun c3 => ?_)
    · have hc3t := hb2.1 c3
      refine x_aload_n 0 rfl rfl (dk zX7_put 9 rfl) ?_
      refine gf7_2 (r := 114) rfl k107 r107_2 (dk zX7_put 10 rfl) ?_
      refine x_iload_n 1 rfl rfl (dk zX7_put 11 rfl) ?_
      refine y_iald (j := x1.toNatClampNeg) k114 l114 b2 rfl (dk zX7_put 12 rfl) ?_
      refine x_if_ne (tgt := 37) (by decide) (dk zX7_put 13 rfl) (fun c4 => ?_) (fun c4 => ?_)
      · have hc4t := hc3t.1 c4
        refine x_aload_n 0 rfl rfl (dk zX7_put 23 rfl) ?_
        refine gf7_2 (r := 114) rfl k107 r107_2 (dk zX7_put 24 rfl) ?_
        refine x_iload_n 1 rfl rfl (dk zX7_put 25 rfl) ?_
        refine y_iald (j := x1.toNatClampNeg) k114 l114 b2 rfl (dk zX7_put 26 rfl) ?_
        refine x_iconst (v := 1) (by decide) (dk zX7_put 27 rfl) ?_
        refine x_icmp_ne (tgt := 60) (by decide) (dk zX7_put 28 rfl) (fun c5 => ?_) (fun c5 => ?_)
        · have hc5t := hc4t.1 c5
          refine x_aload_n 0 rfl rfl (dk zX7_put 38 rfl) ?_
          refine gf7_0 (r := 108) rfl k107 r107_0 (dk zX7_put 39 rfl) ?_
          refine x_iload_n 1 rfl rfl (dk zX7_put 40 rfl) ?_
          refine y_aaldI (b := 109 + x1.toNatClampNeg) k108 l108 b2 (by omega) (dk zX7_put 41 rfl) ?_
          refine x_iload_n 2 rfl rfl (dk zX7_put 42 rfl) ?_
          refine x_iload_n 3 rfl rfl (dk zX7_put 43 rfl) ?_
          have b6 := hc5t.1
          have hb6 := hc5t.2
          refine y_iast (j := x2.toNatClampNeg) (sShk b2) (sShl b2) b6 rfl (dk zX7_put 44 rfl) ?_
          exact x_vret rfl (dk zX7_put 45 rfl) hb6
        · have hc5f := hc4t.2 c5
          refine x_aload_n 0 rfl rfl (dk zX7_put 29 rfl) ?_
          refine gf7_0 (r := 108) rfl k107 r107_0 (dk zX7_put 30 rfl) ?_
          refine x_iload_n 1 rfl rfl (dk zX7_put 31 rfl) ?_
          refine y_aaldI (b := 109 + x1.toNatClampNeg) k108 l108 b2 (by omega) (dk zX7_put 32 rfl) ?_
          refine x_iload_n 2 rfl rfl (dk zX7_put 33 rfl) ?_
          refine x_iload_n 3 rfl rfl (dk zX7_put 34 rfl) ?_
          refine x_i2s (dk zX7_put 35 rfl) ?_
          refine x_topi (fun v7 ev7 => ?_)
          have hv7 := hc5f v7 ev7
          have b8 := hv7.1
          have hb8 := hv7.2
          refine y_iast (j := x2.toNatClampNeg) (sShk b2) (sShl b2) b8 rfl (dk zX7_put 36 rfl) ?_
          refine x_goto (tgt := 69) (by decide) (dk zX7_put 37 rfl) ?_
          exact x_vret rfl (dk zX7_put 45 rfl) hb8
      · have hc4f := hc3t.2 c4
        refine x_aload_n 0 rfl rfl (dk zX7_put 14 rfl) ?_
        refine gf7_0 (r := 108) rfl k107 r107_0 (dk zX7_put 15 rfl) ?_
        refine x_iload_n 1 rfl rfl (dk zX7_put 16 rfl) ?_
        refine y_aaldI (b := 109 + x1.toNatClampNeg) k108 l108 b2 (by omega) (dk zX7_put 17 rfl) ?_
        refine x_iload_n 2 rfl rfl (dk zX7_put 18 rfl) ?_
        refine x_iload_n 3 rfl rfl (dk zX7_put 19 rfl) ?_
        refine x_i2b (dk zX7_put 20 rfl) ?_
        refine x_topi (fun v9 ev9 => ?_)
        have hv9 := hc4f v9 ev9
        have b10 := hv9.1
        have hb10 := hv9.2
        refine y_iast (j := x2.toNatClampNeg) (sShk b2) (sShl b2) b10 rfl (dk zX7_put 21 rfl) ?_
        refine x_goto (tgt := 69) (by decide) (dk zX7_put 22 rfl) ?_
        exact x_vret rfl (dk zX7_put 45 rfl) hb10
    · have hc3f := hb2.2 c3
      exact x_vret rfl (dk zX7_put 8 rfl) hc3f
set_option maxRecDepth 20000 in
set_option maxHeartbeats 2000000 in
theorem gX7_move_0 {E : EV} {Q : Po} {μ : Mem} {x1 : Int32} {x2 : Int32} {x3 : Int32} {x4 : Int32} {x5 : Int32} (h : Sp E MX7_hasRun [.ref 107, .int x1, .int x2, .int x5] μ (fun v m1 => ∃ r2 : Int32, v = some (.int r2) ∧ ((r2 = 0 → Q none m1) ∧ (¬ r2 = 0 → Sp E MX7_hasRun [.ref 107, .int x3, .int x4, .int x5] m1 (fun v m4 => ∃ r5 : Int32, v = some (.int r5) ∧ ((r5 = 0 → Q none m4) ∧ (¬ r5 = 0 → vp_in x1 4 ∧ (vp_in x3 4 ∧ ((¬ x2 < 0 ∧ ¬ x4 < 0 ∧ ¬ x5 < 0 ∧ x2.toNatClampNeg + x5.toNatClampNeg ≤ 60 ∧ x4.toNatClampNeg + x5.toNatClampNeg ≤ 60) ∧ (Q none (mCI m4 (109 + x1.toNatClampNeg) x2.toNatClampNeg (109 + x3.toNatClampNeg) x4.toNatClampNeg x5.toNatClampNeg))))))))))) : Ex E MX7_move Q 0 [(0, .ref 107), (1, .int x1), (2, .int x2), (3, .int x3), (4, .int x4), (5, .int x5)] [] μ := by
  refine x_aload_n 0 rfl rfl (dk zX7_move 0 rfl) ?_
  refine x_iload_n 1 rfl rfl (dk zX7_move 1 rfl) ?_
  refine x_iload_n 2 rfl rfl (dk zX7_move 2 rfl) ?_
  refine x_iload 5 rfl (dk zX7_move 3 rfl) ?_
  refine x_callV (as := [.int x1, .int x2, .int x5]) (o := 107) (ci := 7) (st := []) rfl okRX7_37 npX7_hasRun ⟨Nat.le_of_ble_eq_true rfl, Nat.le_of_ble_eq_true rfl⟩ k107 (by decide) rfl (Nat.le_of_ble_eq_true rfl) (dk zX7_move 4 rfl) ?_
  refine h.mono ?_
  rintro _ m1 ⟨r2, rfl, hm1⟩
  show Ex E MX7_move Q 8 [(0, .ref 107), (1, .int x1), (2, .int x2), (3, .int x3), (4, .int x4), (5, .int x5)] [.int r2] m1
  refine x_if_eq (tgt := 43) (by decide) (dk zX7_move 5 rfl) (fun c3 => ?_) (fun c3 => ?_)
  · have hc3t := hm1.1 c3
    exact x_vret rfl (dk zX7_move 24 rfl) hc3t
  · have hc3f := hm1.2 c3
    refine x_aload_n 0 rfl rfl (dk zX7_move 6 rfl) ?_
    refine x_iload_n 3 rfl rfl (dk zX7_move 7 rfl) ?_
    refine x_iload 4 rfl (dk zX7_move 8 rfl) ?_
    refine x_iload 5 rfl (dk zX7_move 9 rfl) ?_
    refine x_callV (as := [.int x3, .int x4, .int x5]) (o := 107) (ci := 7) (st := []) rfl okRX7_37 npX7_hasRun ⟨Nat.le_of_ble_eq_true rfl, Nat.le_of_ble_eq_true rfl⟩ k107 (by decide) rfl (Nat.le_of_ble_eq_true rfl) (dk zX7_move 10 rfl) ?_
    refine hc3f.mono ?_
    rintro _ m4 ⟨r5, rfl, hm4⟩
    show Ex E MX7_move Q 20 [(0, .ref 107), (1, .int x1), (2, .int x2), (3, .int x3), (4, .int x4), (5, .int x5)] [.int r5] m4
    refine x_if_eq (tgt := 43) (by decide) (dk zX7_move 11 rfl) (fun c6 => ?_) (fun c6 => ?_)
    · have hc6t := hm4.1 c6
      exact x_vret rfl (dk zX7_move 24 rfl) hc6t
    · have hc6f := hm4.2 c6
      refine x_aload_n 0 rfl rfl (dk zX7_move 12 rfl) ?_
      refine gf7_0 (r := 108) rfl k107 r107_0 (dk zX7_move 13 rfl) ?_
      refine x_iload_n 1 rfl rfl (dk zX7_move 14 rfl) ?_
      have b7 := hc6f.1
      have hb7 := hc6f.2
      refine y_aaldI (b := 109 + x1.toNatClampNeg) k108 l108 b7 (by omega) (dk zX7_move 15 rfl) ?_
      refine x_iload_n 2 rfl rfl (dk zX7_move 16 rfl) ?_
      refine x_aload_n 0 rfl rfl (dk zX7_move 17 rfl) ?_
      refine gf7_0 (r := 108) rfl k107 r107_0 (dk zX7_move 18 rfl) ?_
      refine x_iload_n 3 rfl rfl (dk zX7_move 19 rfl) ?_
      have b8 := hb7.1
      have hb8 := hb7.2
      refine y_aaldI (b := 109 + x3.toNatClampNeg) k108 l108 b8 (by omega) (dk zX7_move 20 rfl) ?_
      refine x_iload 4 rfl (dk zX7_move 21 rfl) ?_
      refine x_iload 5 rfl (dk zX7_move 22 rfl) ?_
      have b9 := hb8.1
      have hb9 := hb8.2
      refine x_copyI rfl wlRX7_41 wnat wsac wiac (sShk b7) (sShk b8) b9.1 b9.2.1 b9.2.2.1 (by rw [(sShl b7)]; exact b9.2.2.2.1) (by rw [(sShl b8)]; exact b9.2.2.2.2) (by decide) (by decide) (dk zX7_move 23 rfl) ?_
      exact x_vret rfl (dk zX7_move 24 rfl) hb9
set_option maxRecDepth 20000 in
set_option maxHeartbeats 2000000 in
theorem gX8_isFull_0 {E : EV} {Q : Po} {μ : Mem} {x0 : Nat} (hk0 : kd x0 = 8) (h : (((μ.1 x0 2) < (μ.1 x0 1) → Q (some (.int 0)) μ) ∧ (¬ (μ.1 x0 2) < (μ.1 x0 1) → Q (some (.int 1)) μ))) : Ex E MX8_isFull Q 0 [(0, .ref x0)] [] μ := by
  refine x_aload_n 0 rfl rfl (dk zX8_isFull 0 rfl) ?_
  refine gf8_2 rfl hk0 (dk zX8_isFull 1 rfl) ?_
  refine x_aload_n 0 rfl rfl (dk zX8_isFull 2 rfl) ?_
  refine gf8_1 rfl hk0 (dk zX8_isFull 3 rfl) ?_
  refine x_icmp_lt (tgt := 15) (by decide) (dk zX8_isFull 4 rfl) (fun c1 => ?_) (fun c1 => ?_)
  · have hc1t := h.1 c1
    refine x_iconst (v := 0) (by decide) (dk zX8_isFull 7 rfl) ?_
    exact x_iret rfl rfl (dk zX8_isFull 8 rfl) hc1t
  · have hc1f := h.2 c1
    refine x_iconst (v := 1) (by decide) (dk zX8_isFull 5 rfl) ?_
    refine x_goto (tgt := 16) (by decide) (dk zX8_isFull 6 rfl) ?_
    exact x_iret rfl rfl (dk zX8_isFull 8 rfl) hc1f
set_option maxRecDepth 20000 in
set_option maxHeartbeats 2000000 in
theorem gX8_append_0 {E : EV} {Q : Po} {μ : Mem} {x0 : Nat} {x1 : Int32} (hk0 : kd x0 = 8) (h : (((μ.1 x0 1) ≤ (μ.1 x0 2) → Q none μ) ∧ (¬ (μ.1 x0 1) ≤ (μ.1 x0 2) → vp_in (μ.1 x0 2) 50 ∧ (∀ v3 : Int32, v3 = ((mI μ (x0 + 1) ((μ.1 x0 2).toNatClampNeg) x1).1 x0 2) + 1 → Q none (mI (mI μ (x0 + 1) ((μ.1 x0 2).toNatClampNeg) x1) x0 2 v3))))) : Ex E MX8_append Q 0 [(0, .ref x0), (1, .int x1)] [] μ := by
  refine x_aload_n 0 rfl rfl (dk zX8_append 0 rfl) ?_
  refine gf8_2 rfl hk0 (dk zX8_append 1 rfl) ?_
  refine x_aload_n 0 rfl rfl (dk zX8_append 2 rfl) ?_
  refine gf8_1 rfl hk0 (dk zX8_append 3 rfl) ?_
  refine x_icmp_ge (tgt := 31) (by decide) (dk zX8_append 4 rfl) (fun c1 => ?_) (fun c1 => ?_)
  · have hc1t := h.1 c1
    exact x_vret rfl (dk zX8_append 17 rfl) hc1t
  · have hc1f := h.2 c1
    refine x_aload_n 0 rfl rfl (dk zX8_append 5 rfl) ?_
    refine gf8_0 (r := x0 + 1) rfl hk0 (sT0 _ hk0) (dk zX8_append 6 rfl) ?_
    refine x_aload_n 0 rfl rfl (dk zX8_append 7 rfl) ?_
    refine gf8_2 rfl hk0 (dk zX8_append 8 rfl) ?_
    refine x_iload_n 1 rfl rfl (dk zX8_append 9 rfl) ?_
    have b2 := hc1f.1
    have hb2 := hc1f.2
    refine y_iast (j := (μ.1 x0 2).toNatClampNeg) (sT0k _ hk0) (sT0l _ hk0) b2 rfl (dk zX8_append 10 rfl) ?_
    refine x_aload_n 0 rfl rfl (dk zX8_append 11 rfl) ?_
    refine x_dupr (dk zX8_append 12 rfl) ?_
    refine gf8_2 rfl hk0 (dk zX8_append 13 rfl) ?_
    refine x_iconst (v := 1) (by decide) (dk zX8_append 14 rfl) ?_
    refine x_iadd (dk zX8_append 15 rfl) ?_
    refine x_topi (fun v3 ev3 => ?_)
    have hv3 := hb2 v3 ev3
    refine pf8_2 rfl hk0 (dk zX8_append 16 rfl) ?_
    exact x_vret rfl (dk zX8_append 17 rfl) hv3
set_option maxRecDepth 20000 in
set_option maxHeartbeats 2000000 in
theorem gX8_empty_0 {E : EV} {Q : Po} {μ : Mem} {x0 : Nat} (hk0 : kd x0 = 8) (h : Q none (mI μ x0 2 0)) : Ex E MX8_empty Q 0 [(0, .ref x0)] [] μ := by
  refine x_aload_n 0 rfl rfl (dk zX8_empty 0 rfl) ?_
  refine x_iconst (v := 0) (by decide) (dk zX8_empty 1 rfl) ?_
  refine pf8_2 rfl hk0 (dk zX8_empty 2 rfl) ?_
  exact x_vret rfl (dk zX8_empty 3 rfl) h
end
