section
-- ===== PART A: goes FIRST, ahead of the names: the tables' words, and 'selects' of the private methods out of them =====
/-- a private method of a class that the tables say can be made, by its rows of tables_1 -/
def lw_okq (q : MethodName × Nat) : Prop := (q.1.cls ≠ "java/lang/invoke/MethodHandle" ∧ q.1.cls ≠ "java/lang/invoke/VarHandle") ∧ Cond.instantiable q.1.cls q.2 ∈ tables_1 ∧ Cond.privateMethod q.1 ∈ tables_1 ∧ Cond.instanceMethod q.1 ∈ tables_1
theorem lw_p0 : lw_okq (⟨"StampsCancel", "learnIfLand", "(I)V"⟩, 12) := ⟨⟨by decide +kernel, by decide +kernel⟩, List.mem_of_getElem? (i := 18) (by decide +kernel), List.mem_of_getElem? (i := 308) (by decide +kernel), List.mem_of_getElem? (i := 309) (by decide +kernel)⟩
theorem lw_p1 : lw_okq (⟨"StampsCancel$Land", "forget", "()V"⟩, 6) := ⟨⟨by decide +kernel, by decide +kernel⟩, List.mem_of_getElem? (i := 26) (by decide +kernel), List.mem_of_getElem? (i := 316) (by decide +kernel), List.mem_of_getElem? (i := 317) (by decide +kernel)⟩
theorem lw_p2 : lw_okq (⟨"StampsCancel$Land", "faultOf", "(LStampsCancel$Text;)I"⟩, 6) := ⟨⟨by decide +kernel, by decide +kernel⟩, List.mem_of_getElem? (i := 26) (by decide +kernel), List.mem_of_getElem? (i := 324) (by decide +kernel), List.mem_of_getElem? (i := 325) (by decide +kernel)⟩
theorem lw_p3 : lw_okq (⟨"StampsCancel$Land", "takeRoom", "(LStampsCancel$Text;I)I"⟩, 6) := ⟨⟨by decide +kernel, by decide +kernel⟩, List.mem_of_getElem? (i := 26) (by decide +kernel), List.mem_of_getElem? (i := 332) (by decide +kernel), List.mem_of_getElem? (i := 333) (by decide +kernel)⟩
theorem lw_p4 : lw_okq (⟨"StampsCancel$Land", "takeGate", "(LStampsCancel$Text;I)I"⟩, 6) := ⟨⟨by decide +kernel, by decide +kernel⟩, List.mem_of_getElem? (i := 26) (by decide +kernel), List.mem_of_getElem? (i := 339) (by decide +kernel), List.mem_of_getElem? (i := 340) (by decide +kernel)⟩
theorem lw_p5 : lw_okq (⟨"StampsCancel", "wayFault", "(LStampsCancel$Text;)I"⟩, 12) := ⟨⟨by decide +kernel, by decide +kernel⟩, List.mem_of_getElem? (i := 18) (by decide +kernel), List.mem_of_getElem? (i := 363) (by decide +kernel), List.mem_of_getElem? (i := 364) (by decide +kernel)⟩
theorem lw_p6 : lw_okq (⟨"StampsCancel", "stampWay", "(ILStampsCancel$Paper;)V"⟩, 12) := ⟨⟨by decide +kernel, by decide +kernel⟩, List.mem_of_getElem? (i := 18) (by decide +kernel), List.mem_of_getElem? (i := 419) (by decide +kernel), List.mem_of_getElem? (i := 420) (by decide +kernel)⟩
theorem lw_p7 : lw_okq (⟨"StampsCancel", "judgeWay", "(III)V"⟩, 12) := ⟨⟨by decide +kernel, by decide +kernel⟩, List.mem_of_getElem? (i := 18) (by decide +kernel), List.mem_of_getElem? (i := 456) (by decide +kernel), List.mem_of_getElem? (i := 457) (by decide +kernel)⟩
theorem lw_p8 : lw_okq (⟨"StampsCancel$Judge", "mayPass", "(I)Z"⟩, 6) := ⟨⟨by decide +kernel, by decide +kernel⟩, List.mem_of_getElem? (i := 67) (by decide +kernel), List.mem_of_getElem? (i := 476) (by decide +kernel), List.mem_of_getElem? (i := 477) (by decide +kernel)⟩
theorem lw_p9 : lw_okq (⟨"StampsCancel$Judge", "pass", "(I)V"⟩, 6) := ⟨⟨by decide +kernel, by decide +kernel⟩, List.mem_of_getElem? (i := 67) (by decide +kernel), List.mem_of_getElem? (i := 485) (by decide +kernel), List.mem_of_getElem? (i := 486) (by decide +kernel)⟩
theorem lw_p10 : lw_okq (⟨"StampsCancel", "planRoute", "(IIII)I"⟩, 12) := ⟨⟨by decide +kernel, by decide +kernel⟩, List.mem_of_getElem? (i := 18) (by decide +kernel), List.mem_of_getElem? (i := 520) (by decide +kernel), List.mem_of_getElem? (i := 521) (by decide +kernel)⟩
theorem lw_p11 : lw_okq (⟨"StampsCancel$Distances", "layOut", "(LStampsCancel$Land;I)V"⟩, 3) := ⟨⟨by decide +kernel, by decide +kernel⟩, List.mem_of_getElem? (i := 100) (by decide +kernel), List.mem_of_getElem? (i := 537) (by decide +kernel), List.mem_of_getElem? (i := 538) (by decide +kernel)⟩
theorem lw_p12 : lw_okq (⟨"StampsCancel$Distances", "link", "(II)V"⟩, 3) := ⟨⟨by decide +kernel, by decide +kernel⟩, List.mem_of_getElem? (i := 100) (by decide +kernel), List.mem_of_getElem? (i := 548) (by decide +kernel), List.mem_of_getElem? (i := 549) (by decide +kernel)⟩
theorem lw_p13 : lw_okq (⟨"StampsCancel$Distances", "spread", "(I)V"⟩, 3) := ⟨⟨by decide +kernel, by decide +kernel⟩, List.mem_of_getElem? (i := 100) (by decide +kernel), List.mem_of_getElem? (i := 552) (by decide +kernel), List.mem_of_getElem? (i := 553) (by decide +kernel)⟩
theorem lw_p14 : lw_okq (⟨"StampsCancel$Route", "need", "(I)V"⟩, 6) := ⟨⟨by decide +kernel, by decide +kernel⟩, List.mem_of_getElem? (i := 94) (by decide +kernel), List.mem_of_getElem? (i := 559) (by decide +kernel), List.mem_of_getElem? (i := 560) (by decide +kernel)⟩
theorem lw_p15 : lw_okq (⟨"StampsCancel$Route", "origin", "(II)I"⟩, 6) := ⟨⟨by decide +kernel, by decide +kernel⟩, List.mem_of_getElem? (i := 94) (by decide +kernel), List.mem_of_getElem? (i := 567) (by decide +kernel), List.mem_of_getElem? (i := 568) (by decide +kernel)⟩
def lw_privs_1 : List (MethodName × Nat) := [(⟨"StampsCancel", "learnIfLand", "(I)V"⟩, 12), (⟨"StampsCancel$Land", "forget", "()V"⟩, 6), (⟨"StampsCancel$Land", "faultOf", "(LStampsCancel$Text;)I"⟩, 6), (⟨"StampsCancel$Land", "takeRoom", "(LStampsCancel$Text;I)I"⟩, 6), (⟨"StampsCancel$Land", "takeGate", "(LStampsCancel$Text;I)I"⟩, 6), (⟨"StampsCancel", "wayFault", "(LStampsCancel$Text;)I"⟩, 12), (⟨"StampsCancel", "stampWay", "(ILStampsCancel$Paper;)V"⟩, 12), (⟨"StampsCancel", "judgeWay", "(III)V"⟩, 12), (⟨"StampsCancel$Judge", "mayPass", "(I)Z"⟩, 6), (⟨"StampsCancel$Judge", "pass", "(I)V"⟩, 6), (⟨"StampsCancel", "planRoute", "(IIII)I"⟩, 12), (⟨"StampsCancel$Distances", "layOut", "(LStampsCancel$Land;I)V"⟩, 3), (⟨"StampsCancel$Distances", "link", "(II)V"⟩, 3), (⟨"StampsCancel$Distances", "spread", "(I)V"⟩, 3), (⟨"StampsCancel$Route", "need", "(I)V"⟩, 6), (⟨"StampsCancel$Route", "origin", "(II)I"⟩, 6)]
theorem lw_r1 : ∀ q ∈ lw_privs_1, lw_okq q := List.forall_mem_cons.mpr ⟨lw_p0, List.forall_mem_cons.mpr ⟨lw_p1, List.forall_mem_cons.mpr ⟨lw_p2, List.forall_mem_cons.mpr ⟨lw_p3, List.forall_mem_cons.mpr ⟨lw_p4, List.forall_mem_cons.mpr ⟨lw_p5, List.forall_mem_cons.mpr ⟨lw_p6, List.forall_mem_cons.mpr ⟨lw_p7, List.forall_mem_cons.mpr ⟨lw_p8, List.forall_mem_cons.mpr ⟨lw_p9, List.forall_mem_cons.mpr ⟨lw_p10, List.forall_mem_cons.mpr ⟨lw_p11, List.forall_mem_cons.mpr ⟨lw_p12, List.forall_mem_cons.mpr ⟨lw_p13, List.forall_mem_cons.mpr ⟨lw_p14, List.forall_mem_cons.mpr ⟨lw_p15, fun _ h => absurd h List.not_mem_nil⟩⟩⟩⟩⟩⟩⟩⟩⟩⟩⟩⟩⟩⟩⟩⟩
theorem lw_p16 : lw_okq (⟨"StampsCancel$Route", "needAt", "(I)I"⟩, 6) := ⟨⟨by decide +kernel, by decide +kernel⟩, List.mem_of_getElem? (i := 94) (by decide +kernel), List.mem_of_getElem? (i := 571) (by decide +kernel), List.mem_of_getElem? (i := 572) (by decide +kernel)⟩
theorem lw_p17 : lw_okq (⟨"StampsCancel$Route", "goal", "(II)I"⟩, 6) := ⟨⟨by decide +kernel, by decide +kernel⟩, List.mem_of_getElem? (i := 94) (by decide +kernel), List.mem_of_getElem? (i := 576) (by decide +kernel), List.mem_of_getElem? (i := 577) (by decide +kernel)⟩
theorem lw_p18 : lw_okq (⟨"StampsCancel$Route", "laneWays", "(II)J"⟩, 6) := ⟨⟨by decide +kernel, by decide +kernel⟩, List.mem_of_getElem? (i := 94) (by decide +kernel), List.mem_of_getElem? (i := 591) (by decide +kernel), List.mem_of_getElem? (i := 592) (by decide +kernel)⟩
theorem lw_p19 : lw_okq (⟨"StampsCancel$Route", "stepNearer", "(II)V"⟩, 6) := ⟨⟨by decide +kernel, by decide +kernel⟩, List.mem_of_getElem? (i := 94) (by decide +kernel), List.mem_of_getElem? (i := 599) (by decide +kernel), List.mem_of_getElem? (i := 600) (by decide +kernel)⟩
theorem lw_p20 : lw_okq (⟨"StampsCancel$Route", "isLane", "(I)Z"⟩, 6) := ⟨⟨by decide +kernel, by decide +kernel⟩, List.mem_of_getElem? (i := 94) (by decide +kernel), List.mem_of_getElem? (i := 607) (by decide +kernel), List.mem_of_getElem? (i := 608) (by decide +kernel)⟩
theorem lw_p21 : lw_okq (⟨"StampsCancel$Route", "leastLaneLetter", "(III)I"⟩, 6) := ⟨⟨by decide +kernel, by decide +kernel⟩, List.mem_of_getElem? (i := 94) (by decide +kernel), List.mem_of_getElem? (i := 623) (by decide +kernel), List.mem_of_getElem? (i := 624) (by decide +kernel)⟩
theorem lw_p22 : lw_okq (⟨"StampsCancel$Route", "leastNearer", "(II)I"⟩, 6) := ⟨⟨by decide +kernel, by decide +kernel⟩, List.mem_of_getElem? (i := 94) (by decide +kernel), List.mem_of_getElem? (i := 627) (by decide +kernel), List.mem_of_getElem? (i := 628) (by decide +kernel)⟩
theorem lw_p23 : lw_okq (⟨"StampsCancel$Errands", "setOut", "(I)V"⟩, 4) := ⟨⟨by decide +kernel, by decide +kernel⟩, List.mem_of_getElem? (i := 138) (by decide +kernel), List.mem_of_getElem? (i := 639) (by decide +kernel), List.mem_of_getElem? (i := 640) (by decide +kernel)⟩
theorem lw_p24 : lw_okq (⟨"StampsCancel$Errands", "reached", "()I"⟩, 4) := ⟨⟨by decide +kernel, by decide +kernel⟩, List.mem_of_getElem? (i := 138) (by decide +kernel), List.mem_of_getElem? (i := 647) (by decide +kernel), List.mem_of_getElem? (i := 648) (by decide +kernel)⟩
theorem lw_p25 : lw_okq (⟨"StampsCancel$Errands", "allowOneMore", "()Z"⟩, 4) := ⟨⟨by decide +kernel, by decide +kernel⟩, List.mem_of_getElem? (i := 138) (by decide +kernel), List.mem_of_getElem? (i := 651) (by decide +kernel), List.mem_of_getElem? (i := 652) (by decide +kernel)⟩
theorem lw_p26 : lw_okq (⟨"StampsCancel$Errands", "comeNearer", "(II)Z"⟩, 4) := ⟨⟨by decide +kernel, by decide +kernel⟩, List.mem_of_getElem? (i := 138) (by decide +kernel), List.mem_of_getElem? (i := 661) (by decide +kernel), List.mem_of_getElem? (i := 662) (by decide +kernel)⟩
theorem lw_p27 : lw_okq (⟨"StampsCancel$Route", "isChained", "()Z"⟩, 6) := ⟨⟨by decide +kernel, by decide +kernel⟩, List.mem_of_getElem? (i := 94) (by decide +kernel), List.mem_of_getElem? (i := 686) (by decide +kernel), List.mem_of_getElem? (i := 687) (by decide +kernel)⟩
theorem lw_p28 : lw_okq (⟨"StampsCancel$Walks", "joinTowns", "()V"⟩, 7) := ⟨⟨by decide +kernel, by decide +kernel⟩, List.mem_of_getElem? (i := 159) (by decide +kernel), List.mem_of_getElem? (i := 710) (by decide +kernel), List.mem_of_getElem? (i := 711) (by decide +kernel)⟩
theorem lw_p29 : lw_okq (⟨"StampsCancel$Walks", "countRounds", "(I)V"⟩, 7) := ⟨⟨by decide +kernel, by decide +kernel⟩, List.mem_of_getElem? (i := 159) (by decide +kernel), List.mem_of_getElem? (i := 717) (by decide +kernel), List.mem_of_getElem? (i := 718) (by decide +kernel)⟩
theorem lw_p30 : lw_okq (⟨"StampsCancel$Walks", "lengthen", "([JIII)V"⟩, 7) := ⟨⟨by decide +kernel, by decide +kernel⟩, List.mem_of_getElem? (i := 159) (by decide +kernel), List.mem_of_getElem? (i := 726) (by decide +kernel), List.mem_of_getElem? (i := 727) (by decide +kernel)⟩
theorem lw_p31 : lw_okq (⟨"StampsCancel$Walks", "goOnByLanes", "([JI)V"⟩, 7) := ⟨⟨by decide +kernel, by decide +kernel⟩, List.mem_of_getElem? (i := 159) (by decide +kernel), List.mem_of_getElem? (i := 730) (by decide +kernel), List.mem_of_getElem? (i := 731) (by decide +kernel)⟩
def lw_privs_2 : List (MethodName × Nat) := [(⟨"StampsCancel$Route", "needAt", "(I)I"⟩, 6), (⟨"StampsCancel$Route", "goal", "(II)I"⟩, 6), (⟨"StampsCancel$Route", "laneWays", "(II)J"⟩, 6), (⟨"StampsCancel$Route", "stepNearer", "(II)V"⟩, 6), (⟨"StampsCancel$Route", "isLane", "(I)Z"⟩, 6), (⟨"StampsCancel$Route", "leastLaneLetter", "(III)I"⟩, 6), (⟨"StampsCancel$Route", "leastNearer", "(II)I"⟩, 6), (⟨"StampsCancel$Errands", "setOut", "(I)V"⟩, 4), (⟨"StampsCancel$Errands", "reached", "()I"⟩, 4), (⟨"StampsCancel$Errands", "allowOneMore", "()Z"⟩, 4), (⟨"StampsCancel$Errands", "comeNearer", "(II)Z"⟩, 4), (⟨"StampsCancel$Route", "isChained", "()Z"⟩, 6), (⟨"StampsCancel$Walks", "joinTowns", "()V"⟩, 7), (⟨"StampsCancel$Walks", "countRounds", "(I)V"⟩, 7), (⟨"StampsCancel$Walks", "lengthen", "([JIII)V"⟩, 7), (⟨"StampsCancel$Walks", "goOnByLanes", "([JI)V"⟩, 7)]
theorem lw_r2 : ∀ q ∈ lw_privs_2, lw_okq q := List.forall_mem_cons.mpr ⟨lw_p16, List.forall_mem_cons.mpr ⟨lw_p17, List.forall_mem_cons.mpr ⟨lw_p18, List.forall_mem_cons.mpr ⟨lw_p19, List.forall_mem_cons.mpr ⟨lw_p20, List.forall_mem_cons.mpr ⟨lw_p21, List.forall_mem_cons.mpr ⟨lw_p22, List.forall_mem_cons.mpr ⟨lw_p23, List.forall_mem_cons.mpr ⟨lw_p24, List.forall_mem_cons.mpr ⟨lw_p25, List.forall_mem_cons.mpr ⟨lw_p26, List.forall_mem_cons.mpr ⟨lw_p27, List.forall_mem_cons.mpr ⟨lw_p28, List.forall_mem_cons.mpr ⟨lw_p29, List.forall_mem_cons.mpr ⟨lw_p30, List.forall_mem_cons.mpr ⟨lw_p31, fun _ h => absurd h List.not_mem_nil⟩⟩⟩⟩⟩⟩⟩⟩⟩⟩⟩⟩⟩⟩⟩⟩
theorem lw_p32 : lw_okq (⟨"StampsCancel$Walks", "behindRounds", "([JIII)J"⟩, 7) := ⟨⟨by decide +kernel, by decide +kernel⟩, List.mem_of_getElem? (i := 159) (by decide +kernel), List.mem_of_getElem? (i := 736) (by decide +kernel), List.mem_of_getElem? (i := 737) (by decide +kernel)⟩
theorem lw_p33 : lw_okq (⟨"StampsCancel$Walks", "countFrom", "(III)V"⟩, 7) := ⟨⟨by decide +kernel, by decide +kernel⟩, List.mem_of_getElem? (i := 159) (by decide +kernel), List.mem_of_getElem? (i := 740) (by decide +kernel), List.mem_of_getElem? (i := 741) (by decide +kernel)⟩
theorem lw_p34 : lw_okq (⟨"StampsCancel$Walks", "stampForGood", "(II)V"⟩, 7) := ⟨⟨by decide +kernel, by decide +kernel⟩, List.mem_of_getElem? (i := 159) (by decide +kernel), List.mem_of_getElem? (i := 745) (by decide +kernel), List.mem_of_getElem? (i := 746) (by decide +kernel)⟩
theorem lw_p35 : lw_okq (⟨"StampsCancel", "listIfRoom", "(LStampsCancel$Paper;)V"⟩, 12) := ⟨⟨by decide +kernel, by decide +kernel⟩, List.mem_of_getElem? (i := 18) (by decide +kernel), List.mem_of_getElem? (i := 791) (by decide +kernel), List.mem_of_getElem? (i := 792) (by decide +kernel)⟩
theorem lw_p36 : lw_okq (⟨"StampsCancel$Listing", "unlikeAt", "(LStampsCancel$Paper;I)I"⟩, 5) := ⟨⟨by decide +kernel, by decide +kernel⟩, List.mem_of_getElem? (i := 191) (by decide +kernel), List.mem_of_getElem? (i := 827) (by decide +kernel), List.mem_of_getElem? (i := 828) (by decide +kernel)⟩
theorem lw_p37 : lw_okq (⟨"StampsCancel$Listing", "isLetBy", "(II)Z"⟩, 5) := ⟨⟨by decide +kernel, by decide +kernel⟩, List.mem_of_getElem? (i := 191) (by decide +kernel), List.mem_of_getElem? (i := 840) (by decide +kernel), List.mem_of_getElem? (i := 841) (by decide +kernel)⟩
theorem lw_p38 : lw_okq (⟨"StampsCancel$Listing", "unlikeOf", "(II)I"⟩, 5) := ⟨⟨by decide +kernel, by decide +kernel⟩, List.mem_of_getElem? (i := 191) (by decide +kernel), List.mem_of_getElem? (i := 844) (by decide +kernel), List.mem_of_getElem? (i := 845) (by decide +kernel)⟩
theorem lw_p39 : lw_okq (⟨"StampsCancel$Listing", "gatherUnlike", "()I"⟩, 5) := ⟨⟨by decide +kernel, by decide +kernel⟩, List.mem_of_getElem? (i := 191) (by decide +kernel), List.mem_of_getElem? (i := 856) (by decide +kernel), List.mem_of_getElem? (i := 857) (by decide +kernel)⟩
theorem lw_p40 : lw_okq (⟨"StampsCancel$Listing", "partsAll", "(II)Z"⟩, 5) := ⟨⟨by decide +kernel, by decide +kernel⟩, List.mem_of_getElem? (i := 191) (by decide +kernel), List.mem_of_getElem? (i := 866) (by decide +kernel), List.mem_of_getElem? (i := 867) (by decide +kernel)⟩
theorem lw_p41 : lw_okq (⟨"StampsCancel$Sheets", "hasRun", "(III)Z"⟩, 4) := ⟨⟨by decide +kernel, by decide +kernel⟩, List.mem_of_getElem? (i := 215) (by decide +kernel), List.mem_of_getElem? (i := 953) (by decide +kernel), List.mem_of_getElem? (i := 954) (by decide +kernel)⟩
theorem lw_p42 : lw_okq (⟨"StampsCancel", "digestGate", "(JI)J"⟩, 12) := ⟨⟨by decide +kernel, by decide +kernel⟩, List.mem_of_getElem? (i := 18) (by decide +kernel), List.mem_of_getElem? (i := 994) (by decide +kernel), List.mem_of_getElem? (i := 995) (by decide +kernel)⟩
theorem lw_p43 : lw_okq (⟨"StampsCancel", "digestWay", "(JI)J"⟩, 12) := ⟨⟨by decide +kernel, by decide +kernel⟩, List.mem_of_getElem? (i := 18) (by decide +kernel), List.mem_of_getElem? (i := 1000) (by decide +kernel), List.mem_of_getElem? (i := 1001) (by decide +kernel)⟩
theorem lw_p44 : lw_okq (⟨"StampsCancel", "digestTown", "(JI)J"⟩, 12) := ⟨⟨by decide +kernel, by decide +kernel⟩, List.mem_of_getElem? (i := 18) (by decide +kernel), List.mem_of_getElem? (i := 1010) (by decide +kernel), List.mem_of_getElem? (i := 1011) (by decide +kernel)⟩
theorem lw_p45 : lw_okq (⟨"StampsCancelModel", "met", "(I)I"⟩, 35) := ⟨⟨by decide +kernel, by decide +kernel⟩, List.mem_of_getElem? (i := 1019) (by decide +kernel), List.mem_of_getElem? (i := 1144) (by decide +kernel), List.mem_of_getElem? (i := 1145) (by decide +kernel)⟩
theorem lw_p46 : lw_okq (⟨"StampsCancelModel", "lacks", "(III)I"⟩, 35) := ⟨⟨by decide +kernel, by decide +kernel⟩, List.mem_of_getElem? (i := 1019) (by decide +kernel), List.mem_of_getElem? (i := 1156) (by decide +kernel), List.mem_of_getElem? (i := 1157) (by decide +kernel)⟩
theorem lw_p47 : lw_okq (⟨"StampsCancelModel", "faultOf", "(I)I"⟩, 35) := ⟨⟨by decide +kernel, by decide +kernel⟩, List.mem_of_getElem? (i := 1019) (by decide +kernel), List.mem_of_getElem? (i := 1191) (by decide +kernel), List.mem_of_getElem? (i := 1192) (by decide +kernel)⟩
def lw_privs_3 : List (MethodName × Nat) := [(⟨"StampsCancel$Walks", "behindRounds", "([JIII)J"⟩, 7), (⟨"StampsCancel$Walks", "countFrom", "(III)V"⟩, 7), (⟨"StampsCancel$Walks", "stampForGood", "(II)V"⟩, 7), (⟨"StampsCancel", "listIfRoom", "(LStampsCancel$Paper;)V"⟩, 12), (⟨"StampsCancel$Listing", "unlikeAt", "(LStampsCancel$Paper;I)I"⟩, 5), (⟨"StampsCancel$Listing", "isLetBy", "(II)Z"⟩, 5), (⟨"StampsCancel$Listing", "unlikeOf", "(II)I"⟩, 5), (⟨"StampsCancel$Listing", "gatherUnlike", "()I"⟩, 5), (⟨"StampsCancel$Listing", "partsAll", "(II)Z"⟩, 5), (⟨"StampsCancel$Sheets", "hasRun", "(III)Z"⟩, 4), (⟨"StampsCancel", "digestGate", "(JI)J"⟩, 12), (⟨"StampsCancel", "digestWay", "(JI)J"⟩, 12), (⟨"StampsCancel", "digestTown", "(JI)J"⟩, 12), (⟨"StampsCancelModel", "met", "(I)I"⟩, 35), (⟨"StampsCancelModel", "lacks", "(III)I"⟩, 35), (⟨"StampsCancelModel", "faultOf", "(I)I"⟩, 35)]
theorem lw_r3 : ∀ q ∈ lw_privs_3, lw_okq q := List.forall_mem_cons.mpr ⟨lw_p32, List.forall_mem_cons.mpr ⟨lw_p33, List.forall_mem_cons.mpr ⟨lw_p34, List.forall_mem_cons.mpr ⟨lw_p35, List.forall_mem_cons.mpr ⟨lw_p36, List.forall_mem_cons.mpr ⟨lw_p37, List.forall_mem_cons.mpr ⟨lw_p38, List.forall_mem_cons.mpr ⟨lw_p39, List.forall_mem_cons.mpr ⟨lw_p40, List.forall_mem_cons.mpr ⟨lw_p41, List.forall_mem_cons.mpr ⟨lw_p42, List.forall_mem_cons.mpr ⟨lw_p43, List.forall_mem_cons.mpr ⟨lw_p44, List.forall_mem_cons.mpr ⟨lw_p45, List.forall_mem_cons.mpr ⟨lw_p46, List.forall_mem_cons.mpr ⟨lw_p47, fun _ h => absurd h List.not_mem_nil⟩⟩⟩⟩⟩⟩⟩⟩⟩⟩⟩⟩⟩⟩⟩⟩
theorem lw_p48 : lw_okq (⟨"StampsCancelModel", "readsLand", "()I"⟩, 35) := ⟨⟨by decide +kernel, by decide +kernel⟩, List.mem_of_getElem? (i := 1019) (by decide +kernel), List.mem_of_getElem? (i := 1195) (by decide +kernel), List.mem_of_getElem? (i := 1196) (by decide +kernel)⟩
theorem lw_p49 : lw_okq (⟨"StampsCancelModel", "clears", "()V"⟩, 35) := ⟨⟨by decide +kernel, by decide +kernel⟩, List.mem_of_getElem? (i := 1019) (by decide +kernel), List.mem_of_getElem? (i := 1199) (by decide +kernel), List.mem_of_getElem? (i := 1200) (by decide +kernel)⟩
theorem lw_p50 : lw_okq (⟨"StampsCancelModel", "readsPart", "()Z"⟩, 35) := ⟨⟨by decide +kernel, by decide +kernel⟩, List.mem_of_getElem? (i := 1019) (by decide +kernel), List.mem_of_getElem? (i := 1203) (by decide +kernel), List.mem_of_getElem? (i := 1204) (by decide +kernel)⟩
theorem lw_p51 : lw_okq (⟨"StampsCancelModel", "here", "()I"⟩, 35) := ⟨⟨by decide +kernel, by decide +kernel⟩, List.mem_of_getElem? (i := 1019) (by decide +kernel), List.mem_of_getElem? (i := 1207) (by decide +kernel), List.mem_of_getElem? (i := 1208) (by decide +kernel)⟩
theorem lw_p52 : lw_okq (⟨"StampsCancelModel", "readsRoom", "()Z"⟩, 35) := ⟨⟨by decide +kernel, by decide +kernel⟩, List.mem_of_getElem? (i := 1019) (by decide +kernel), List.mem_of_getElem? (i := 1211) (by decide +kernel), List.mem_of_getElem? (i := 1212) (by decide +kernel)⟩
theorem lw_p53 : lw_okq (⟨"StampsCancelModel", "letterOf", "(I)I"⟩, 35) := ⟨⟨by decide +kernel, by decide +kernel⟩, List.mem_of_getElem? (i := 1019) (by decide +kernel), List.mem_of_getElem? (i := 1222) (by decide +kernel), List.mem_of_getElem? (i := 1223) (by decide +kernel)⟩
theorem lw_p54 : lw_okq (⟨"StampsCancelModel", "isShut", "(I)Z"⟩, 35) := ⟨⟨by decide +kernel, by decide +kernel⟩, List.mem_of_getElem? (i := 1019) (by decide +kernel), List.mem_of_getElem? (i := 1230) (by decide +kernel), List.mem_of_getElem? (i := 1231) (by decide +kernel)⟩
theorem lw_p55 : lw_okq (⟨"StampsCancelModel", "findPaper", "(II)V"⟩, 35) := ⟨⟨by decide +kernel, by decide +kernel⟩, List.mem_of_getElem? (i := 1019) (by decide +kernel), List.mem_of_getElem? (i := 1250) (by decide +kernel), List.mem_of_getElem? (i := 1251) (by decide +kernel)⟩
theorem lw_p56 : lw_okq (⟨"StampsCancelModel", "lengthOf", "(I)I"⟩, 35) := ⟨⟨by decide +kernel, by decide +kernel⟩, List.mem_of_getElem? (i := 1019) (by decide +kernel), List.mem_of_getElem? (i := 1254) (by decide +kernel), List.mem_of_getElem? (i := 1255) (by decide +kernel)⟩
theorem lw_p57 : lw_okq (⟨"StampsCancelModel", "letterAt", "(II)I"⟩, 35) := ⟨⟨by decide +kernel, by decide +kernel⟩, List.mem_of_getElem? (i := 1019) (by decide +kernel), List.mem_of_getElem? (i := 1258) (by decide +kernel), List.mem_of_getElem? (i := 1259) (by decide +kernel)⟩
theorem lw_p58 : lw_okq (⟨"StampsCancelModel", "stamp", "(II)V"⟩, 35) := ⟨⟨by decide +kernel, by decide +kernel⟩, List.mem_of_getElem? (i := 1019) (by decide +kernel), List.mem_of_getElem? (i := 1262) (by decide +kernel), List.mem_of_getElem? (i := 1263) (by decide +kernel)⟩
theorem lw_p59 : lw_okq (⟨"StampsCancelModel", "isBegun", "(I)Z"⟩, 35) := ⟨⟨by decide +kernel, by decide +kernel⟩, List.mem_of_getElem? (i := 1019) (by decide +kernel), List.mem_of_getElem? (i := 1276) (by decide +kernel), List.mem_of_getElem? (i := 1277) (by decide +kernel)⟩
theorem lw_p60 : lw_okq (⟨"StampsCancelModel", "judgedOf", "(IIII)I"⟩, 35) := ⟨⟨by decide +kernel, by decide +kernel⟩, List.mem_of_getElem? (i := 1019) (by decide +kernel), List.mem_of_getElem? (i := 1281) (by decide +kernel), List.mem_of_getElem? (i := 1282) (by decide +kernel)⟩
theorem lw_p61 : lw_okq (⟨"StampsCancelModel", "start", "(I)I"⟩, 35) := ⟨⟨by decide +kernel, by decide +kernel⟩, List.mem_of_getElem? (i := 1019) (by decide +kernel), List.mem_of_getElem? (i := 1285) (by decide +kernel), List.mem_of_getElem? (i := 1286) (by decide +kernel)⟩
theorem lw_p62 : lw_okq (⟨"StampsCancelModel", "end", "(I)I"⟩, 35) := ⟨⟨by decide +kernel, by decide +kernel⟩, List.mem_of_getElem? (i := 1019) (by decide +kernel), List.mem_of_getElem? (i := 1289) (by decide +kernel), List.mem_of_getElem? (i := 1290) (by decide +kernel)⟩
theorem lw_p63 : lw_okq (⟨"StampsCancelModel", "sameOf", "(II)I"⟩, 35) := ⟨⟨by decide +kernel, by decide +kernel⟩, List.mem_of_getElem? (i := 1019) (by decide +kernel), List.mem_of_getElem? (i := 1297) (by decide +kernel), List.mem_of_getElem? (i := 1298) (by decide +kernel)⟩
def lw_privs_4 : List (MethodName × Nat) := [(⟨"StampsCancelModel", "readsLand", "()I"⟩, 35), (⟨"StampsCancelModel", "clears", "()V"⟩, 35), (⟨"StampsCancelModel", "readsPart", "()Z"⟩, 35), (⟨"StampsCancelModel", "here", "()I"⟩, 35), (⟨"StampsCancelModel", "readsRoom", "()Z"⟩, 35), (⟨"StampsCancelModel", "letterOf", "(I)I"⟩, 35), (⟨"StampsCancelModel", "isShut", "(I)Z"⟩, 35), (⟨"StampsCancelModel", "findPaper", "(II)V"⟩, 35), (⟨"StampsCancelModel", "lengthOf", "(I)I"⟩, 35), (⟨"StampsCancelModel", "letterAt", "(II)I"⟩, 35), (⟨"StampsCancelModel", "stamp", "(II)V"⟩, 35), (⟨"StampsCancelModel", "isBegun", "(I)Z"⟩, 35), (⟨"StampsCancelModel", "judgedOf", "(IIII)I"⟩, 35), (⟨"StampsCancelModel", "start", "(I)I"⟩, 35), (⟨"StampsCancelModel", "end", "(I)I"⟩, 35), (⟨"StampsCancelModel", "sameOf", "(II)I"⟩, 35)]
theorem lw_r4 : ∀ q ∈ lw_privs_4, lw_okq q := List.forall_mem_cons.mpr ⟨lw_p48, List.forall_mem_cons.mpr ⟨lw_p49, List.forall_mem_cons.mpr ⟨lw_p50, List.forall_mem_cons.mpr ⟨lw_p51, List.forall_mem_cons.mpr ⟨lw_p52, List.forall_mem_cons.mpr ⟨lw_p53, List.forall_mem_cons.mpr ⟨lw_p54, List.forall_mem_cons.mpr ⟨lw_p55, List.forall_mem_cons.mpr ⟨lw_p56, List.forall_mem_cons.mpr ⟨lw_p57, List.forall_mem_cons.mpr ⟨lw_p58, List.forall_mem_cons.mpr ⟨lw_p59, List.forall_mem_cons.mpr ⟨lw_p60, List.forall_mem_cons.mpr ⟨lw_p61, List.forall_mem_cons.mpr ⟨lw_p62, List.forall_mem_cons.mpr ⟨lw_p63, fun _ h => absurd h List.not_mem_nil⟩⟩⟩⟩⟩⟩⟩⟩⟩⟩⟩⟩⟩⟩⟩⟩
theorem lw_p64 : lw_okq (⟨"StampsCancelModel", "alike", "()I"⟩, 35) := ⟨⟨by decide +kernel, by decide +kernel⟩, List.mem_of_getElem? (i := 1019) (by decide +kernel), List.mem_of_getElem? (i := 1301) (by decide +kernel), List.mem_of_getElem? (i := 1302) (by decide +kernel)⟩
theorem lw_p65 : lw_okq (⟨"StampsCancelModel", "isAsked", "(IIII)Z"⟩, 35) := ⟨⟨by decide +kernel, by decide +kernel⟩, List.mem_of_getElem? (i := 1019) (by decide +kernel), List.mem_of_getElem? (i := 1309) (by decide +kernel), List.mem_of_getElem? (i := 1310) (by decide +kernel)⟩
theorem lw_p66 : lw_okq (⟨"StampsCancelModel", "shortestOf", "(IIIII)J"⟩, 35) := ⟨⟨by decide +kernel, by decide +kernel⟩, List.mem_of_getElem? (i := 1019) (by decide +kernel), List.mem_of_getElem? (i := 1316) (by decide +kernel), List.mem_of_getElem? (i := 1317) (by decide +kernel)⟩
theorem lw_p67 : lw_okq (⟨"StampsCancelModel", "findShortest", "(IIII)V"⟩, 35) := ⟨⟨by decide +kernel, by decide +kernel⟩, List.mem_of_getElem? (i := 1019) (by decide +kernel), List.mem_of_getElem? (i := 1320) (by decide +kernel), List.mem_of_getElem? (i := 1321) (by decide +kernel)⟩
theorem lw_p68 : lw_okq (⟨"StampsCancelModel", "findUnseen", "()V"⟩, 35) := ⟨⟨by decide +kernel, by decide +kernel⟩, List.mem_of_getElem? (i := 1019) (by decide +kernel), List.mem_of_getElem? (i := 1324) (by decide +kernel), List.mem_of_getElem? (i := 1325) (by decide +kernel)⟩
theorem lw_p69 : lw_okq (⟨"StampsCancelModel", "isUnseen", "(I)Z"⟩, 35) := ⟨⟨by decide +kernel, by decide +kernel⟩, List.mem_of_getElem? (i := 1019) (by decide +kernel), List.mem_of_getElem? (i := 1328) (by decide +kernel), List.mem_of_getElem? (i := 1329) (by decide +kernel)⟩
theorem lw_p70 : lw_okq (⟨"StampsCancelModel", "findBetween", "()V"⟩, 35) := ⟨⟨by decide +kernel, by decide +kernel⟩, List.mem_of_getElem? (i := 1019) (by decide +kernel), List.mem_of_getElem? (i := 1332) (by decide +kernel), List.mem_of_getElem? (i := 1333) (by decide +kernel)⟩
theorem lw_p71 : lw_okq (⟨"StampsCancelModel", "goesOn", "(II)V"⟩, 35) := ⟨⟨by decide +kernel, by decide +kernel⟩, List.mem_of_getElem? (i := 1019) (by decide +kernel), List.mem_of_getElem? (i := 1336) (by decide +kernel), List.mem_of_getElem? (i := 1337) (by decide +kernel)⟩
theorem lw_p72 : lw_okq (⟨"StampsCancelModel", "leastUnseen", "(II)I"⟩, 35) := ⟨⟨by decide +kernel, by decide +kernel⟩, List.mem_of_getElem? (i := 1019) (by decide +kernel), List.mem_of_getElem? (i := 1349) (by decide +kernel), List.mem_of_getElem? (i := 1350) (by decide +kernel)⟩
theorem lw_p73 : lw_okq (⟨"StampsCancelModel", "errandsOf", "(III)I"⟩, 35) := ⟨⟨by decide +kernel, by decide +kernel⟩, List.mem_of_getElem? (i := 1019) (by decide +kernel), List.mem_of_getElem? (i := 1357) (by decide +kernel), List.mem_of_getElem? (i := 1358) (by decide +kernel)⟩
theorem lw_p74 : lw_okq (⟨"StampsCancelModel", "findErrands", "(I)V"⟩, 35) := ⟨⟨by decide +kernel, by decide +kernel⟩, List.mem_of_getElem? (i := 1019) (by decide +kernel), List.mem_of_getElem? (i := 1361) (by decide +kernel), List.mem_of_getElem? (i := 1362) (by decide +kernel)⟩
theorem lw_p75 : lw_okq (⟨"StampsCancelModel", "stampsTo", "(I)I"⟩, 35) := ⟨⟨by decide +kernel, by decide +kernel⟩, List.mem_of_getElem? (i := 1019) (by decide +kernel), List.mem_of_getElem? (i := 1365) (by decide +kernel), List.mem_of_getElem? (i := 1366) (by decide +kernel)⟩
theorem lw_p76 : lw_okq (⟨"StampsCancelModel", "cleanOf", "(I)I"⟩, 35) := ⟨⟨by decide +kernel, by decide +kernel⟩, List.mem_of_getElem? (i := 1019) (by decide +kernel), List.mem_of_getElem? (i := 1373) (by decide +kernel), List.mem_of_getElem? (i := 1374) (by decide +kernel)⟩
theorem lw_p77 : lw_okq (⟨"StampsCancelModel", "foundOf", "(II)I"⟩, 35) := ⟨⟨by decide +kernel, by decide +kernel⟩, List.mem_of_getElem? (i := 1019) (by decide +kernel), List.mem_of_getElem? (i := 1381) (by decide +kernel), List.mem_of_getElem? (i := 1382) (by decide +kernel)⟩
theorem lw_p78 : lw_okq (⟨"StampsCancelModel", "manyOf", "(IIII)J"⟩, 35) := ⟨⟨by decide +kernel, by decide +kernel⟩, List.mem_of_getElem? (i := 1019) (by decide +kernel), List.mem_of_getElem? (i := 1390) (by decide +kernel), List.mem_of_getElem? (i := 1391) (by decide +kernel)⟩
theorem lw_p79 : lw_okq (⟨"StampsCancelModel", "findClosed", "(I)V"⟩, 35) := ⟨⟨by decide +kernel, by decide +kernel⟩, List.mem_of_getElem? (i := 1019) (by decide +kernel), List.mem_of_getElem? (i := 1394) (by decide +kernel), List.mem_of_getElem? (i := 1395) (by decide +kernel)⟩
def lw_privs_5 : List (MethodName × Nat) := [(⟨"StampsCancelModel", "alike", "()I"⟩, 35), (⟨"StampsCancelModel", "isAsked", "(IIII)Z"⟩, 35), (⟨"StampsCancelModel", "shortestOf", "(IIIII)J"⟩, 35), (⟨"StampsCancelModel", "findShortest", "(IIII)V"⟩, 35), (⟨"StampsCancelModel", "findUnseen", "()V"⟩, 35), (⟨"StampsCancelModel", "isUnseen", "(I)Z"⟩, 35), (⟨"StampsCancelModel", "findBetween", "()V"⟩, 35), (⟨"StampsCancelModel", "goesOn", "(II)V"⟩, 35), (⟨"StampsCancelModel", "leastUnseen", "(II)I"⟩, 35), (⟨"StampsCancelModel", "errandsOf", "(III)I"⟩, 35), (⟨"StampsCancelModel", "findErrands", "(I)V"⟩, 35), (⟨"StampsCancelModel", "stampsTo", "(I)I"⟩, 35), (⟨"StampsCancelModel", "cleanOf", "(I)I"⟩, 35), (⟨"StampsCancelModel", "foundOf", "(II)I"⟩, 35), (⟨"StampsCancelModel", "manyOf", "(IIII)J"⟩, 35), (⟨"StampsCancelModel", "findClosed", "(I)V"⟩, 35)]
theorem lw_r5 : ∀ q ∈ lw_privs_5, lw_okq q := List.forall_mem_cons.mpr ⟨lw_p64, List.forall_mem_cons.mpr ⟨lw_p65, List.forall_mem_cons.mpr ⟨lw_p66, List.forall_mem_cons.mpr ⟨lw_p67, List.forall_mem_cons.mpr ⟨lw_p68, List.forall_mem_cons.mpr ⟨lw_p69, List.forall_mem_cons.mpr ⟨lw_p70, List.forall_mem_cons.mpr ⟨lw_p71, List.forall_mem_cons.mpr ⟨lw_p72, List.forall_mem_cons.mpr ⟨lw_p73, List.forall_mem_cons.mpr ⟨lw_p74, List.forall_mem_cons.mpr ⟨lw_p75, List.forall_mem_cons.mpr ⟨lw_p76, List.forall_mem_cons.mpr ⟨lw_p77, List.forall_mem_cons.mpr ⟨lw_p78, List.forall_mem_cons.mpr ⟨lw_p79, fun _ h => absurd h List.not_mem_nil⟩⟩⟩⟩⟩⟩⟩⟩⟩⟩⟩⟩⟩⟩⟩⟩
theorem lw_p80 : lw_okq (⟨"StampsCancelModel", "closedBy", "(IIIII)J"⟩, 35) := ⟨⟨by decide +kernel, by decide +kernel⟩, List.mem_of_getElem? (i := 1019) (by decide +kernel), List.mem_of_getElem? (i := 1398) (by decide +kernel), List.mem_of_getElem? (i := 1399) (by decide +kernel)⟩
theorem lw_p81 : lw_okq (⟨"StampsCancelModel", "follows", "(IIII)V"⟩, 35) := ⟨⟨by decide +kernel, by decide +kernel⟩, List.mem_of_getElem? (i := 1019) (by decide +kernel), List.mem_of_getElem? (i := 1405) (by decide +kernel), List.mem_of_getElem? (i := 1406) (by decide +kernel)⟩
theorem lw_p82 : lw_okq (⟨"StampsCancelModel", "lists", "(Z)I"⟩, 35) := ⟨⟨by decide +kernel, by decide +kernel⟩, List.mem_of_getElem? (i := 1019) (by decide +kernel), List.mem_of_getElem? (i := 1413) (by decide +kernel), List.mem_of_getElem? (i := 1414) (by decide +kernel)⟩
theorem lw_p83 : lw_okq (⟨"StampsCancelModel", "listedAt", "(II)I"⟩, 35) := ⟨⟨by decide +kernel, by decide +kernel⟩, List.mem_of_getElem? (i := 1019) (by decide +kernel), List.mem_of_getElem? (i := 1430) (by decide +kernel), List.mem_of_getElem? (i := 1431) (by decide +kernel)⟩
theorem lw_p84 : lw_okq (⟨"StampsCancelModel", "letsBy", "(I)Z"⟩, 35) := ⟨⟨by decide +kernel, by decide +kernel⟩, List.mem_of_getElem? (i := 1019) (by decide +kernel), List.mem_of_getElem? (i := 1442) (by decide +kernel), List.mem_of_getElem? (i := 1443) (by decide +kernel)⟩
theorem lw_p85 : lw_okq (⟨"StampsCancelModel", "slipsOf", "(I)I"⟩, 35) := ⟨⟨by decide +kernel, by decide +kernel⟩, List.mem_of_getElem? (i := 1019) (by decide +kernel), List.mem_of_getElem? (i := 1450) (by decide +kernel), List.mem_of_getElem? (i := 1451) (by decide +kernel)⟩
theorem lw_p86 : lw_okq (⟨"StampsCancelModel", "fewestNow", "()I"⟩, 35) := ⟨⟨by decide +kernel, by decide +kernel⟩, List.mem_of_getElem? (i := 1019) (by decide +kernel), List.mem_of_getElem? (i := 1458) (by decide +kernel), List.mem_of_getElem? (i := 1459) (by decide +kernel)⟩
theorem lw_p87 : lw_okq (⟨"StampsCancelModel", "farOf", "(II)I"⟩, 35) := ⟨⟨by decide +kernel, by decide +kernel⟩, List.mem_of_getElem? (i := 1019) (by decide +kernel), List.mem_of_getElem? (i := 1469) (by decide +kernel), List.mem_of_getElem? (i := 1470) (by decide +kernel)⟩
theorem lw_p88 : lw_okq (⟨"StampsCancelModel", "findFar", "(III)V"⟩, 35) := ⟨⟨by decide +kernel, by decide +kernel⟩, List.mem_of_getElem? (i := 1019) (by decide +kernel), List.mem_of_getElem? (i := 1473) (by decide +kernel), List.mem_of_getElem? (i := 1474) (by decide +kernel)⟩
theorem lw_p89 : lw_okq (⟨"StampsCancelModel", "joins", "(II)V"⟩, 35) := ⟨⟨by decide +kernel, by decide +kernel⟩, List.mem_of_getElem? (i := 1019) (by decide +kernel), List.mem_of_getElem? (i := 1477) (by decide +kernel), List.mem_of_getElem? (i := 1478) (by decide +kernel)⟩
theorem lw_p90 : lw_okq (⟨"StampsCancelModel", "changed", "(IIII)I"⟩, 35) := ⟨⟨by decide +kernel, by decide +kernel⟩, List.mem_of_getElem? (i := 1019) (by decide +kernel), List.mem_of_getElem? (i := 1485) (by decide +kernel), List.mem_of_getElem? (i := 1486) (by decide +kernel)⟩
def lw_privs_6 : List (MethodName × Nat) := [(⟨"StampsCancelModel", "closedBy", "(IIIII)J"⟩, 35), (⟨"StampsCancelModel", "follows", "(IIII)V"⟩, 35), (⟨"StampsCancelModel", "lists", "(Z)I"⟩, 35), (⟨"StampsCancelModel", "listedAt", "(II)I"⟩, 35), (⟨"StampsCancelModel", "letsBy", "(I)Z"⟩, 35), (⟨"StampsCancelModel", "slipsOf", "(I)I"⟩, 35), (⟨"StampsCancelModel", "fewestNow", "()I"⟩, 35), (⟨"StampsCancelModel", "farOf", "(II)I"⟩, 35), (⟨"StampsCancelModel", "findFar", "(III)V"⟩, 35), (⟨"StampsCancelModel", "joins", "(II)V"⟩, 35), (⟨"StampsCancelModel", "changed", "(IIII)I"⟩, 35)]
theorem lw_r6 : ∀ q ∈ lw_privs_6, lw_okq q := List.forall_mem_cons.mpr ⟨lw_p80, List.forall_mem_cons.mpr ⟨lw_p81, List.forall_mem_cons.mpr ⟨lw_p82, List.forall_mem_cons.mpr ⟨lw_p83, List.forall_mem_cons.mpr ⟨lw_p84, List.forall_mem_cons.mpr ⟨lw_p85, List.forall_mem_cons.mpr ⟨lw_p86, List.forall_mem_cons.mpr ⟨lw_p87, List.forall_mem_cons.mpr ⟨lw_p88, List.forall_mem_cons.mpr ⟨lw_p89, List.forall_mem_cons.mpr ⟨lw_p90, fun _ h => absurd h List.not_mem_nil⟩⟩⟩⟩⟩⟩⟩⟩⟩⟩⟩
def lw_privs : List (MethodName × Nat) := lw_privs_1 ++ (lw_privs_2 ++ (lw_privs_3 ++ (lw_privs_4 ++ (lw_privs_5 ++ (lw_privs_6)))))
def lw_tbl : List Cond := k2_sels lw_privs ++ tables_1
theorem lw_privs_ok : ∀ q ∈ lw_privs, lw_okq q := by
  show ∀ q ∈ lw_privs_1 ++ (lw_privs_2 ++ (lw_privs_3 ++ (lw_privs_4 ++ (lw_privs_5 ++ (lw_privs_6))))), lw_okq q
  exact List.forall_mem_append.mpr ⟨lw_r1, List.forall_mem_append.mpr ⟨lw_r2, List.forall_mem_append.mpr ⟨lw_r3, List.forall_mem_append.mpr ⟨lw_r4, List.forall_mem_append.mpr ⟨lw_r5, lw_r6⟩⟩⟩⟩⟩
-- ===== end of PART A; then your names; then what follows =====
end
section
def RX0 : String := "StampsCancel$Distances"
def TX0 : u_T := fun k => match k with
  | 0 => ("StampsCancel$Distances", "apart", "[[I", true)
  | 1 => ("StampsCancel$Distances", "beside", "[I", true)
  | _ => ("StampsCancel$Distances", "queue", "[I", true)
def tyX0 : Nat → FieldType := fun k => match k with
  | 0 => .array (.array .int)
  | 1 => .array .int
  | _ => .array .int
abbrev wsX00 : List Cond := u_ws RX0 TX0 3
theorem nmX0 : ∀ a, a < 3 → ∀ b, b < 3 → a ≠ b → (TX0 a).2.1 ≠ (TX0 b).2.1 := by decide +kernel
theorem tyX0_ok : ∀ k, k < 3 → parseFieldDescriptor (TX0 k).2.2.1 = some (tyX0 k) := by decide +kernel
abbrev cX0_init : ByteArray := prog_2_method_1_code
def yX0_init : MethodName := ⟨RX0, "<init>", "()V"⟩
abbrev cX0_measure : ByteArray := prog_2_method_2_code
def yX0_measure : MethodName := ⟨RX0, "measure", "(LStampsCancel$Land;I)V"⟩
abbrev cX0_measureLinked : ByteArray := prog_2_method_3_code
def yX0_measureLinked : MethodName := ⟨RX0, "measureLinked", "(LStampsCancel$Land;III)V"⟩
abbrev cX0_measureFrom : ByteArray := prog_2_method_4_code
def yX0_measureFrom : MethodName := ⟨RX0, "measureFrom", "(LStampsCancel$Land;II)V"⟩
abbrev cX0_between : ByteArray := prog_2_method_5_code
def yX0_between : MethodName := ⟨RX0, "between", "(II)I"⟩
abbrev cX0_reachedFrom : ByteArray := prog_2_method_6_code
def yX0_reachedFrom : MethodName := ⟨RX0, "reachedFrom", "(I)I"⟩
abbrev cX0_pairsUnlike : ByteArray := prog_2_method_7_code
def yX0_pairsUnlike : MethodName := ⟨RX0, "pairsUnlike", "(LStampsCancel$Distances;)I"⟩
abbrev cX0_mostUnlike : ByteArray := prog_2_method_8_code
def yX0_mostUnlike : MethodName := ⟨RX0, "mostUnlike", "(LStampsCancel$Distances;)I"⟩
abbrev cX0_layOut : ByteArray := prog_2_method_9_code
def yX0_layOut : MethodName := ⟨RX0, "layOut", "(LStampsCancel$Land;I)V"⟩
abbrev cX0_link : ByteArray := prog_2_method_10_code
def yX0_link : MethodName := ⟨RX0, "link", "(II)V"⟩
abbrev cX0_spread : ByteArray := prog_2_method_11_code
def yX0_spread : MethodName := ⟨RX0, "spread", "(I)V"⟩
def RX1 : String := "StampsCancel$Errands"
def TX1 : u_T := fun k => match k with
  | 0 => ("StampsCancel$Errands", "land", "LStampsCancel$Land;", true)
  | 1 => ("StampsCancel$Errands", "lanes", "LStampsCancel$Distances;", true)
  | 2 => ("StampsCancel$Errands", "steps", "[I", true)
  | _ => ("StampsCancel$Errands", "stepsBefore", "[I", true)
def tyX1 : Nat → FieldType := fun k => match k with
  | 0 => .object "StampsCancel$Land"
  | 1 => .object "StampsCancel$Distances"
  | 2 => .array .int
  | _ => .array .int
abbrev wsX10 : List Cond := u_ws RX1 TX1 4
theorem nmX1 : ∀ a, a < 4 → ∀ b, b < 4 → a ≠ b → (TX1 a).2.1 ≠ (TX1 b).2.1 := by decide +kernel
theorem tyX1_ok : ∀ k, k < 4 → parseFieldDescriptor (TX1 k).2.2.1 = some (tyX1 k) := by decide +kernel
abbrev cX1_init : ByteArray := prog_3_method_1_code
def yX1_init : MethodName := ⟨RX1, "<init>", "(LStampsCancel$Land;)V"⟩
abbrev cX1_fullest : ByteArray := prog_3_method_2_code
def yX1_fullest : MethodName := ⟨RX1, "fullest", "(II)I"⟩
abbrev cX1_homely : ByteArray := prog_3_method_3_code
def yX1_homely : MethodName := ⟨RX1, "homely", "(I)I"⟩
abbrev cX1_stepsTo : ByteArray := prog_3_method_4_code
def yX1_stepsTo : MethodName := ⟨RX1, "stepsTo", "(I)I"⟩
abbrev cX1_reached : ByteArray := prog_3_method_5_code
def yX1_reached : MethodName := ⟨RX1, "reached", "()I"⟩
abbrev cX1_setOut : ByteArray := prog_3_method_6_code
def yX1_setOut : MethodName := ⟨RX1, "setOut", "(I)V"⟩
abbrev cX1_allowOneMore : ByteArray := prog_3_method_7_code
def yX1_allowOneMore : MethodName := ⟨RX1, "allowOneMore", "()Z"⟩
abbrev cX1_comeNearer : ByteArray := prog_3_method_8_code
def yX1_comeNearer : MethodName := ⟨RX1, "comeNearer", "(II)Z"⟩
def RX2 : String := "StampsCancel$Judge"
def TX2 : u_T := fun k => match k with
  | 0 => ("StampsCancel$Judge", "land", "LStampsCancel$Land;", true)
  | 1 => ("StampsCancel$Judge", "paper", "LStampsCancel$Paper;", true)
  | 2 => ("StampsCancel$Judge", "place", "I", false)
  | 3 => ("StampsCancel$Judge", "town", "I", false)
  | 4 => ("StampsCancel$Judge", "fullest", "I", false)
  | _ => ("StampsCancel$Judge", "struck", "I", false)
def tyX2 : Nat → FieldType := fun k => match k with
  | 0 => .object "StampsCancel$Land"
  | 1 => .object "StampsCancel$Paper"
  | 2 => .int
  | 3 => .int
  | 4 => .int
  | _ => .int
abbrev wsX20 : List Cond := u_ws RX2 TX2 6
theorem nmX2 : ∀ a, a < 6 → ∀ b, b < 6 → a ≠ b → (TX2 a).2.1 ≠ (TX2 b).2.1 := by decide +kernel
theorem tyX2_ok : ∀ k, k < 6 → parseFieldDescriptor (TX2 k).2.2.1 = some (tyX2 k) := by decide +kernel
abbrev cX2_init : ByteArray := prog_4_method_1_code
def yX2_init : MethodName := ⟨RX2, "<init>", "(LStampsCancel$Land;)V"⟩
abbrev cX2_onPaper : ByteArray := prog_4_method_2_code
def yX2_onPaper : MethodName := ⟨RX2, "onPaper", "()LStampsCancel$Paper;"⟩
abbrev cX2_begin : ByteArray := prog_4_method_3_code
def yX2_begin : MethodName := ⟨RX2, "begin", "(I)V"⟩
abbrev cX2_follow : ByteArray := prog_4_method_4_code
def yX2_follow : MethodName := ⟨RX2, "follow", "(LStampsCancel$Text;)V"⟩
abbrev cX2_mayPass : ByteArray := prog_4_method_5_code
def yX2_mayPass : MethodName := ⟨RX2, "mayPass", "(I)Z"⟩
abbrev cX2_pass : ByteArray := prog_4_method_6_code
def yX2_pass : MethodName := ⟨RX2, "pass", "(I)V"⟩
abbrev cX2_verdict : ByteArray := prog_4_method_7_code
def yX2_verdict : MethodName := ⟨RX2, "verdict", "(I)I"⟩
def RX3 : String := "StampsCancel$Land"
def TX3 : u_T := fun k => match k with
  | 0 => ("StampsCancel$Land", "from", "[I", true)
  | 1 => ("StampsCancel$Land", "gates", "I", false)
  | 2 => ("StampsCancel$Land", "watched", "I", false)
  | 3 => ("StampsCancel$Land", "shut", "I", false)
  | 4 => ("StampsCancel$Land", "room", "I", false)
  | _ => ("StampsCancel$Land", "fault", "I", false)
def tyX3 : Nat → FieldType := fun k => match k with
  | 0 => .array .int
  | 1 => .int
  | 2 => .int
  | 3 => .int
  | 4 => .int
  | _ => .int
abbrev wsX30 : List Cond := u_ws RX3 TX3 6
theorem nmX3 : ∀ a, a < 6 → ∀ b, b < 6 → a ≠ b → (TX3 a).2.1 ≠ (TX3 b).2.1 := by decide +kernel
theorem tyX3_ok : ∀ k, k < 6 → parseFieldDescriptor (TX3 k).2.2.1 = some (tyX3 k) := by decide +kernel
abbrev cX3_init : ByteArray := prog_5_method_1_code
def yX3_init : MethodName := ⟨RX3, "<init>", "()V"⟩
abbrev cX3_learn : ByteArray := prog_5_method_2_code
def yX3_learn : MethodName := ⟨RX3, "learn", "(LStampsCancel$Text;)V"⟩
abbrev cX3_forget : ByteArray := prog_5_method_3_code
def yX3_forget : MethodName := ⟨RX3, "forget", "()V"⟩
abbrev cX3_faultOf : ByteArray := prog_5_method_4_code
def yX3_faultOf : MethodName := ⟨RX3, "faultOf", "(LStampsCancel$Text;)I"⟩
abbrev cX3_takeGate : ByteArray := prog_5_method_5_code
def yX3_takeGate : MethodName := ⟨RX3, "takeGate", "(LStampsCancel$Text;I)I"⟩
abbrev cX3_takeRoom : ByteArray := prog_5_method_6_code
def yX3_takeRoom : MethodName := ⟨RX3, "takeRoom", "(LStampsCancel$Text;I)I"⟩
abbrev cX3_isTownByte : ByteArray := prog_5_method_7_code
def yX3_isTownByte : MethodName := ⟨RX3, "isTownByte", "(I)Z"⟩
abbrev cX3_isFigure : ByteArray := prog_5_method_8_code
def yX3_isFigure : MethodName := ⟨RX3, "isFigure", "(I)Z"⟩
abbrev cX3_close : ByteArray := prog_5_method_9_code
def yX3_close : MethodName := ⟨RX3, "close", "(I)I"⟩
abbrev cX3_faultPlace : ByteArray := prog_5_method_10_code
def yX3_faultPlace : MethodName := ⟨RX3, "faultPlace", "()I"⟩
abbrev cX3_roomTold : ByteArray := prog_5_method_11_code
def yX3_roomTold : MethodName := ⟨RX3, "roomTold", "()I"⟩
abbrev cX3_gatesTold : ByteArray := prog_5_method_12_code
def yX3_gatesTold : MethodName := ⟨RX3, "gatesTold", "()I"⟩
abbrev cX3_gatesWatched : ByteArray := prog_5_method_13_code
def yX3_gatesWatched : MethodName := ⟨RX3, "gatesWatched", "()I"⟩
abbrev cX3_hasGate : ByteArray := prog_5_method_14_code
def yX3_hasGate : MethodName := ⟨RX3, "hasGate", "(I)Z"⟩
abbrev cX3_letters : ByteArray := prog_5_method_15_code
def yX3_letters : MethodName := ⟨RX3, "letters", "()I"⟩
abbrev cX3_letterOf : ByteArray := prog_5_method_16_code
def yX3_letterOf : MethodName := ⟨RX3, "letterOf", "(I)I"⟩
abbrev cX3_from : ByteArray := prog_5_method_17_code
def yX3_from : MethodName := ⟨RX3, "from", "(I)I"⟩
abbrev cX3_to : ByteArray := prog_5_method_18_code
def yX3_to : MethodName := ⟨RX3, "to", "(I)I"⟩
abbrev cX3_isWatched : ByteArray := prog_5_method_19_code
def yX3_isWatched : MethodName := ⟨RX3, "isWatched", "(I)Z"⟩
abbrev cX3_isOpen : ByteArray := prog_5_method_20_code
def yX3_isOpen : MethodName := ⟨RX3, "isOpen", "(I)Z"⟩
abbrev cX3_openGates : ByteArray := prog_5_method_21_code
def yX3_openGates : MethodName := ⟨RX3, "openGates", "()I"⟩
abbrev cX3_openLanes : ByteArray := prog_5_method_22_code
def yX3_openLanes : MethodName := ⟨RX3, "openLanes", "()I"⟩
def RX4 : String := "StampsCancel$Listing"
def TX4 : u_T := fun k => match k with
  | 0 => ("StampsCancel$Listing", "stamps", "[I", true)
  | 1 => ("StampsCancel$Listing", "sizes", "[I", true)
  | 2 => ("StampsCancel$Listing", "good", "[I", true)
  | 3 => ("StampsCancel$Listing", "unlike", "[I", true)
  | _ => ("StampsCancel$Listing", "size", "I", false)
def tyX4 : Nat → FieldType := fun k => match k with
  | 0 => .array .int
  | 1 => .array .int
  | 2 => .array .int
  | 3 => .array .int
  | _ => .int
abbrev wsX40 : List Cond := u_ws RX4 TX4 5
theorem nmX4 : ∀ a, a < 5 → ∀ b, b < 5 → a ≠ b → (TX4 a).2.1 ≠ (TX4 b).2.1 := by decide +kernel
theorem tyX4_ok : ∀ k, k < 5 → parseFieldDescriptor (TX4 k).2.2.1 = some (tyX4 k) := by decide +kernel
abbrev cX4_init : ByteArray := prog_6_method_1_code
def yX4_init : MethodName := ⟨RX4, "<init>", "()V"⟩
abbrev cX4_isFull : ByteArray := prog_6_method_2_code
def yX4_isFull : MethodName := ⟨RX4, "isFull", "()Z"⟩
abbrev cX4_size : ByteArray := prog_6_method_3_code
def yX4_size : MethodName := ⟨RX4, "size", "()I"⟩
abbrev cX4_append : ByteArray := prog_6_method_4_code
def yX4_append : MethodName := ⟨RX4, "append", "(LStampsCancel$Paper;I)V"⟩
abbrev cX4_dropLast : ByteArray := prog_6_method_5_code
def yX4_dropLast : MethodName := ⟨RX4, "dropLast", "()V"⟩
abbrev cX4_goodOnes : ByteArray := prog_6_method_6_code
def yX4_goodOnes : MethodName := ⟨RX4, "goodOnes", "()I"⟩
abbrev cX4_stampsOf : ByteArray := prog_6_method_7_code
def yX4_stampsOf : MethodName := ⟨RX4, "stampsOf", "(I)I"⟩
abbrev cX4_stampAt : ByteArray := prog_6_method_8_code
def yX4_stampAt : MethodName := ⟨RX4, "stampAt", "(II)I"⟩
abbrev cX4_letsBy : ByteArray := prog_6_method_9_code
def yX4_letsBy : MethodName := ⟨RX4, "letsBy", "(LStampsCancel$Paper;I)Z"⟩
abbrev cX4_slipping : ByteArray := prog_6_method_10_code
def yX4_slipping : MethodName := ⟨RX4, "slipping", "(I)I"⟩
abbrev cX4_fewestPlaces : ByteArray := prog_6_method_11_code
def yX4_fewestPlaces : MethodName := ⟨RX4, "fewestPlaces", "()I"⟩
abbrev cX4_gatherUnlike : ByteArray := prog_6_method_12_code
def yX4_gatherUnlike : MethodName := ⟨RX4, "gatherUnlike", "()I"⟩
abbrev cX4_partsAll : ByteArray := prog_6_method_13_code
def yX4_partsAll : MethodName := ⟨RX4, "partsAll", "(II)Z"⟩
abbrev cX4_isLetBy : ByteArray := prog_6_method_14_code
def yX4_isLetBy : MethodName := ⟨RX4, "isLetBy", "(II)Z"⟩
abbrev cX4_unlikeOf : ByteArray := prog_6_method_15_code
def yX4_unlikeOf : MethodName := ⟨RX4, "unlikeOf", "(II)I"⟩
abbrev cX4_unlikeAt : ByteArray := prog_6_method_16_code
def yX4_unlikeAt : MethodName := ⟨RX4, "unlikeAt", "(LStampsCancel$Paper;I)I"⟩
def RX5 : String := "StampsCancel$Paper"
def TX5 : u_T := fun k => match k with
  | 0 => ("StampsCancel$Paper", "stamps", "[I", true)
  | _ => ("StampsCancel$Paper", "size", "I", false)
def tyX5 : Nat → FieldType := fun k => match k with
  | 0 => .array .int
  | _ => .int
abbrev wsX50 : List Cond := u_ws RX5 TX5 2
theorem nmX5 : ∀ a, a < 2 → ∀ b, b < 2 → a ≠ b → (TX5 a).2.1 ≠ (TX5 b).2.1 := by decide +kernel
theorem tyX5_ok : ∀ k, k < 2 → parseFieldDescriptor (TX5 k).2.2.1 = some (tyX5 k) := by decide +kernel
abbrev cX5_init : ByteArray := prog_7_method_1_code
def yX5_init : MethodName := ⟨RX5, "<init>", "()V"⟩
abbrev cX5_empty : ByteArray := prog_7_method_2_code
def yX5_empty : MethodName := ⟨RX5, "empty", "()V"⟩
abbrev cX5_size : ByteArray := prog_7_method_3_code
def yX5_size : MethodName := ⟨RX5, "size", "()I"⟩
abbrev cX5_at : ByteArray := prog_7_method_4_code
def yX5_at : MethodName := ⟨RX5, "at", "(I)I"⟩
abbrev cX5_strikes : ByteArray := prog_7_method_5_code
def yX5_strikes : MethodName := ⟨RX5, "strikes", "(I)Z"⟩
abbrev cX5_stamp : ByteArray := prog_7_method_6_code
def yX5_stamp : MethodName := ⟨RX5, "stamp", "(I)V"⟩
abbrev cX5_alike : ByteArray := prog_7_method_7_code
def yX5_alike : MethodName := ⟨RX5, "alike", "(LStampsCancel$Paper;)I"⟩
def RX6 : String := "StampsCancel$Route"
def TX6 : u_T := fun k => match k with
  | 0 => ("StampsCancel$Route", "land", "LStampsCancel$Land;", true)
  | 1 => ("StampsCancel$Route", "lanes", "LStampsCancel$Distances;", true)
  | 2 => ("StampsCancel$Route", "needs", "[I", true)
  | 3 => ("StampsCancel$Route", "size", "I", false)
  | 4 => ("StampsCancel$Route", "ways", "[J", true)
  | _ => ("StampsCancel$Route", "waysThen", "[J", true)
def tyX6 : Nat → FieldType := fun k => match k with
  | 0 => .object "StampsCancel$Land"
  | 1 => .object "StampsCancel$Distances"
  | 2 => .array .int
  | 3 => .int
  | 4 => .array .long
  | _ => .array .long
abbrev wsX60 : List Cond := u_ws RX6 TX6 6
theorem nmX6 : ∀ a, a < 6 → ∀ b, b < 6 → a ≠ b → (TX6 a).2.1 ≠ (TX6 b).2.1 := by decide +kernel
theorem tyX6_ok : ∀ k, k < 6 → parseFieldDescriptor (TX6 k).2.2.1 = some (tyX6 k) := by decide +kernel
abbrev cX6_init : ByteArray := prog_8_method_1_code
def yX6_init : MethodName := ⟨RX6, "<init>", "(LStampsCancel$Land;)V"⟩
abbrev cX6_plan : ByteArray := prog_8_method_2_code
def yX6_plan : MethodName := ⟨RX6, "plan", "(LStampsCancel$Paper;LStampsCancel$Paper;)V"⟩
abbrev cX6_need : ByteArray := prog_8_method_3_code
def yX6_need : MethodName := ⟨RX6, "need", "(I)V"⟩
abbrev cX6_needAt : ByteArray := prog_8_method_4_code
def yX6_needAt : MethodName := ⟨RX6, "needAt", "(I)I"⟩
abbrev cX6_goal : ByteArray := prog_8_method_5_code
def yX6_goal : MethodName := ⟨RX6, "goal", "(II)I"⟩
abbrev cX6_origin : ByteArray := prog_8_method_6_code
def yX6_origin : MethodName := ⟨RX6, "origin", "(II)I"⟩
abbrev cX6_gatesBetween : ByteArray := prog_8_method_7_code
def yX6_gatesBetween : MethodName := ⟨RX6, "gatesBetween", "(II)I"⟩
abbrev cX6_ways : ByteArray := prog_8_method_8_code
def yX6_ways : MethodName := ⟨RX6, "ways", "(II)J"⟩
abbrev cX6_laneWays : ByteArray := prog_8_method_9_code
def yX6_laneWays : MethodName := ⟨RX6, "laneWays", "(II)J"⟩
abbrev cX6_stepNearer : ByteArray := prog_8_method_10_code
def yX6_stepNearer : MethodName := ⟨RX6, "stepNearer", "(II)V"⟩
abbrev cX6_isLane : ByteArray := prog_8_method_11_code
def yX6_isLane : MethodName := ⟨RX6, "isLane", "(I)Z"⟩
abbrev cX6_leastLetter : ByteArray := prog_8_method_12_code
def yX6_leastLetter : MethodName := ⟨RX6, "leastLetter", "(III)I"⟩
abbrev cX6_leastLaneLetter : ByteArray := prog_8_method_13_code
def yX6_leastLaneLetter : MethodName := ⟨RX6, "leastLaneLetter", "(III)I"⟩
abbrev cX6_leastNearer : ByteArray := prog_8_method_14_code
def yX6_leastNearer : MethodName := ⟨RX6, "leastNearer", "(II)I"⟩
abbrev cX6_starts : ByteArray := prog_8_method_15_code
def yX6_starts : MethodName := ⟨RX6, "starts", "()I"⟩
abbrev cX6_ends : ByteArray := prog_8_method_16_code
def yX6_ends : MethodName := ⟨RX6, "ends", "()I"⟩
abbrev cX6_isChained : ByteArray := prog_8_method_17_code
def yX6_isChained : MethodName := ⟨RX6, "isChained", "()Z"⟩
def RX7 : String := "StampsCancel$Sheets"
def TX7 : u_T := fun k => match k with
  | 0 => ("StampsCancel$Sheets", "items", "[[I", true)
  | 1 => ("StampsCancel$Sheets", "sizes", "[I", true)
  | 2 => ("StampsCancel$Sheets", "forms", "[I", true)
  | _ => ("StampsCancel$Sheets", "latest", "I", false)
def tyX7 : Nat → FieldType := fun k => match k with
  | 0 => .array (.array .int)
  | 1 => .array .int
  | 2 => .array .int
  | _ => .int
abbrev wsX70 : List Cond := u_ws RX7 TX7 4
theorem nmX7 : ∀ a, a < 4 → ∀ b, b < 4 → a ≠ b → (TX7 a).2.1 ≠ (TX7 b).2.1 := by decide +kernel
theorem tyX7_ok : ∀ k, k < 4 → parseFieldDescriptor (TX7 k).2.2.1 = some (tyX7 k) := by decide +kernel
abbrev cX7_init : ByteArray := prog_9_method_1_code
def yX7_init : MethodName := ⟨RX7, "<init>", "()V"⟩
abbrev cX7_find : ByteArray := prog_9_method_2_code
def yX7_find : MethodName := ⟨RX7, "find", "(I)I"⟩
abbrev cX7_latestFinding : ByteArray := prog_9_method_3_code
def yX7_latestFinding : MethodName := ⟨RX7, "latestFinding", "()I"⟩
abbrev cX7_isLost : ByteArray := prog_9_method_4_code
def yX7_isLost : MethodName := ⟨RX7, "isLost", "(I)Z"⟩
abbrev cX7_size : ByteArray := prog_9_method_5_code
def yX7_size : MethodName := ⟨RX7, "size", "(I)I"⟩
abbrev cX7_make : ByteArray := prog_9_method_6_code
def yX7_make : MethodName := ⟨RX7, "make", "(III)V"⟩
abbrev cX7_drop : ByteArray := prog_9_method_7_code
def yX7_drop : MethodName := ⟨RX7, "drop", "(I)V"⟩
abbrev cX7_findingAt : ByteArray := prog_9_method_8_code
def yX7_findingAt : MethodName := ⟨RX7, "findingAt", "(III)I"⟩
abbrev cX7_findingOfCopy : ByteArray := prog_9_method_9_code
def yX7_findingOfCopy : MethodName := ⟨RX7, "findingOfCopy", "(IIIII)I"⟩
abbrev cX7_hasRun : ByteArray := prog_9_method_10_code
def yX7_hasRun : MethodName := ⟨RX7, "hasRun", "(III)Z"⟩
abbrev cX7_item : ByteArray := prog_9_method_11_code
def yX7_item : MethodName := ⟨RX7, "item", "(II)I"⟩
abbrev cX7_put : ByteArray := prog_9_method_12_code
def yX7_put : MethodName := ⟨RX7, "put", "(III)V"⟩
abbrev cX7_move : ByteArray := prog_9_method_13_code
def yX7_move : MethodName := ⟨RX7, "move", "(IIIII)V"⟩
def RX8 : String := "StampsCancel$Text"
def TX8 : u_T := fun k => match k with
  | 0 => ("StampsCancel$Text", "bytes", "[I", true)
  | 1 => ("StampsCancel$Text", "limit", "I", true)
  | _ => ("StampsCancel$Text", "size", "I", false)
def tyX8 : Nat → FieldType := fun k => match k with
  | 0 => .array .int
  | 1 => .int
  | _ => .int
abbrev wsX80 : List Cond := u_ws RX8 TX8 3
theorem nmX8 : ∀ a, a < 3 → ∀ b, b < 3 → a ≠ b → (TX8 a).2.1 ≠ (TX8 b).2.1 := by decide +kernel
theorem tyX8_ok : ∀ k, k < 3 → parseFieldDescriptor (TX8 k).2.2.1 = some (tyX8 k) := by decide +kernel
abbrev cX8_init : ByteArray := prog_10_method_1_code
def yX8_init : MethodName := ⟨RX8, "<init>", "(I)V"⟩
abbrev cX8_isFull : ByteArray := prog_10_method_2_code
def yX8_isFull : MethodName := ⟨RX8, "isFull", "()Z"⟩
abbrev cX8_append : ByteArray := prog_10_method_3_code
def yX8_append : MethodName := ⟨RX8, "append", "(I)V"⟩
abbrev cX8_empty : ByteArray := prog_10_method_4_code
def yX8_empty : MethodName := ⟨RX8, "empty", "()V"⟩
abbrev cX8_size : ByteArray := prog_10_method_5_code
def yX8_size : MethodName := ⟨RX8, "size", "()I"⟩
abbrev cX8_at : ByteArray := prog_10_method_6_code
def yX8_at : MethodName := ⟨RX8, "at", "(I)I"⟩
def RX9 : String := "StampsCancel$Walks"
def TX9 : u_T := fun k => match k with
  | 0 => ("StampsCancel$Walks", "land", "LStampsCancel$Land;", true)
  | 1 => ("StampsCancel$Walks", "lanes", "LStampsCancel$Distances;", true)
  | 2 => ("StampsCancel$Walks", "joined", "[I", true)
  | 3 => ("StampsCancel$Walks", "behind", "[[J", true)
  | 4 => ("StampsCancel$Walks", "rounds", "[J", true)
  | 5 => ("StampsCancel$Walks", "sofar", "[J", true)
  | _ => ("StampsCancel$Walks", "entered", "[J", true)
def tyX9 : Nat → FieldType := fun k => match k with
  | 0 => .object "StampsCancel$Land"
  | 1 => .object "StampsCancel$Distances"
  | 2 => .array .int
  | 3 => .array (.array .long)
  | 4 => .array .long
  | 5 => .array .long
  | _ => .array .long
abbrev wsX90 : List Cond := u_ws RX9 TX9 7
theorem nmX9 : ∀ a, a < 7 → ∀ b, b < 7 → a ≠ b → (TX9 a).2.1 ≠ (TX9 b).2.1 := by decide +kernel
theorem tyX9_ok : ∀ k, k < 7 → parseFieldDescriptor (TX9 k).2.2.1 = some (tyX9 k) := by decide +kernel
abbrev cX9_init : ByteArray := prog_11_method_1_code
def yX9_init : MethodName := ⟨RX9, "<init>", "(LStampsCancel$Land;)V"⟩
abbrev cX9_number : ByteArray := prog_11_method_2_code
def yX9_number : MethodName := ⟨RX9, "number", "(ILStampsCancel$Paper;II)J"⟩
abbrev cX9_joinTowns : ByteArray := prog_11_method_3_code
def yX9_joinTowns : MethodName := ⟨RX9, "joinTowns", "()V"⟩
abbrev cX9_stampForGood : ByteArray := prog_11_method_4_code
def yX9_stampForGood : MethodName := ⟨RX9, "stampForGood", "(II)V"⟩
abbrev cX9_countFrom : ByteArray := prog_11_method_5_code
def yX9_countFrom : MethodName := ⟨RX9, "countFrom", "(III)V"⟩
abbrev cX9_countRounds : ByteArray := prog_11_method_6_code
def yX9_countRounds : MethodName := ⟨RX9, "countRounds", "(I)V"⟩
abbrev cX9_lengthen : ByteArray := prog_11_method_7_code
def yX9_lengthen : MethodName := ⟨RX9, "lengthen", "([JIII)V"⟩
abbrev cX9_goOnByLanes : ByteArray := prog_11_method_8_code
def yX9_goOnByLanes : MethodName := ⟨RX9, "goOnByLanes", "([JI)V"⟩
abbrev cX9_behindRounds : ByteArray := prog_11_method_9_code
def yX9_behindRounds : MethodName := ⟨RX9, "behindRounds", "([JIII)J"⟩
def RX10 : String := "StampsCancel"
def TX10 : u_T := fun k => match k with
  | 0 => ("StampsCancel", "land", "LStampsCancel$Land;", true)
  | 1 => ("StampsCancel", "texts", "[LStampsCancel$Text;", true)
  | 2 => ("StampsCancel", "paperA", "LStampsCancel$Paper;", true)
  | 3 => ("StampsCancel", "paperB", "LStampsCancel$Paper;", true)
  | 4 => ("StampsCancel", "judge", "LStampsCancel$Judge;", true)
  | 5 => ("StampsCancel", "route", "LStampsCancel$Route;", true)
  | 6 => ("StampsCancel", "errands", "LStampsCancel$Errands;", true)
  | 7 => ("StampsCancel", "walks", "LStampsCancel$Walks;", true)
  | 8 => ("StampsCancel", "listing", "LStampsCancel$Listing;", true)
  | 9 => ("StampsCancel", "now", "LStampsCancel$Distances;", true)
  | 10 => ("StampsCancel", "then", "LStampsCancel$Distances;", true)
  | _ => ("StampsCancel", "sheets", "LStampsCancel$Sheets;", true)
def tyX10 : Nat → FieldType := fun k => match k with
  | 0 => .object "StampsCancel$Land"
  | 1 => .array (.object "StampsCancel$Text")
  | 2 => .object "StampsCancel$Paper"
  | 3 => .object "StampsCancel$Paper"
  | 4 => .object "StampsCancel$Judge"
  | 5 => .object "StampsCancel$Route"
  | 6 => .object "StampsCancel$Errands"
  | 7 => .object "StampsCancel$Walks"
  | 8 => .object "StampsCancel$Listing"
  | 9 => .object "StampsCancel$Distances"
  | 10 => .object "StampsCancel$Distances"
  | _ => .object "StampsCancel$Sheets"
abbrev wsX100 : List Cond := u_ws RX10 TX10 12
theorem nmX10 : ∀ a, a < 12 → ∀ b, b < 12 → a ≠ b → (TX10 a).2.1 ≠ (TX10 b).2.1 := by decide +kernel
theorem tyX10_ok : ∀ k, k < 12 → parseFieldDescriptor (TX10 k).2.2.1 = some (tyX10 k) := by decide +kernel
abbrev cX10_init : ByteArray := prog_1_method_1_code
def yX10_init : MethodName := ⟨RX10, "<init>", "()V"⟩
abbrev cX10_type : ByteArray := prog_1_method_2_code
def yX10_type : MethodName := ⟨RX10, "type", "(II)I"⟩
abbrev cX10_wipe : ByteArray := prog_1_method_3_code
def yX10_wipe : MethodName := ⟨RX10, "wipe", "(I)I"⟩
abbrev cX10_fault : ByteArray := prog_1_method_4_code
def yX10_fault : MethodName := ⟨RX10, "fault", "(I)I"⟩
abbrev cX10_gate : ByteArray := prog_1_method_5_code
def yX10_gate : MethodName := ⟨RX10, "gate", "(II)I"⟩
abbrev cX10_room : ByteArray := prog_1_method_6_code
def yX10_room : MethodName := ⟨RX10, "room", "()I"⟩
abbrev cX10_shut : ByteArray := prog_1_method_7_code
def yX10_shut : MethodName := ⟨RX10, "shut", "(I)I"⟩
abbrev cX10_paper : ByteArray := prog_1_method_8_code
def yX10_paper : MethodName := ⟨RX10, "paper", "(II)I"⟩
abbrev cX10_judged : ByteArray := prog_1_method_9_code
def yX10_judged : MethodName := ⟨RX10, "judged", "(IIII)I"⟩
abbrev cX10_same : ByteArray := prog_1_method_10_code
def yX10_same : MethodName := ⟨RX10, "same", "(II)I"⟩
abbrev cX10_shortest : ByteArray := prog_1_method_11_code
def yX10_shortest : MethodName := ⟨RX10, "shortest", "(IIIII)J"⟩
abbrev cX10_letter : ByteArray := prog_1_method_12_code
def yX10_letter : MethodName := ⟨RX10, "letter", "(IIIII)I"⟩
abbrev cX10_errands : ByteArray := prog_1_method_13_code
def yX10_errands : MethodName := ⟨RX10, "errands", "(III)I"⟩
abbrev cX10_clean : ByteArray := prog_1_method_14_code
def yX10_clean : MethodName := ⟨RX10, "clean", "(I)I"⟩
abbrev cX10_found : ByteArray := prog_1_method_15_code
def yX10_found : MethodName := ⟨RX10, "found", "(II)I"⟩
abbrev cX10_many : ByteArray := prog_1_method_16_code
def yX10_many : MethodName := ⟨RX10, "many", "(IIII)J"⟩
abbrev cX10_list : ByteArray := prog_1_method_17_code
def yX10_list : MethodName := ⟨RX10, "list", "(II)I"⟩
abbrev cX10_read : ByteArray := prog_1_method_18_code
def yX10_read : MethodName := ⟨RX10, "read", "(I)I"⟩
abbrev cX10_unlist : ByteArray := prog_1_method_19_code
def yX10_unlist : MethodName := ⟨RX10, "unlist", "()I"⟩
abbrev cX10_listed : ByteArray := prog_1_method_20_code
def yX10_listed : MethodName := ⟨RX10, "listed", "(II)I"⟩
abbrev cX10_lets : ByteArray := prog_1_method_21_code
def yX10_lets : MethodName := ⟨RX10, "lets", "(II)I"⟩
abbrev cX10_slips : ByteArray := prog_1_method_22_code
def yX10_slips : MethodName := ⟨RX10, "slips", "(I)I"⟩
abbrev cX10_fewest : ByteArray := prog_1_method_23_code
def yX10_fewest : MethodName := ⟨RX10, "fewest", "()I"⟩
abbrev cX10_far : ByteArray := prog_1_method_24_code
def yX10_far : MethodName := ⟨RX10, "far", "(II)I"⟩
abbrev cX10_without : ByteArray := prog_1_method_25_code
def yX10_without : MethodName := ⟨RX10, "without", "(II)I"⟩
abbrev cX10_with : ByteArray := prog_1_method_26_code
def yX10_with : MethodName := ⟨RX10, "with", "(III)I"⟩
abbrev cX10_sheet : ByteArray := prog_1_method_27_code
def yX10_sheet : MethodName := ⟨RX10, "sheet", "(III)I"⟩
abbrev cX10_lose : ByteArray := prog_1_method_28_code
def yX10_lose : MethodName := ⟨RX10, "lose", "(I)I"⟩
abbrev cX10_lay : ByteArray := prog_1_method_29_code
def yX10_lay : MethodName := ⟨RX10, "lay", "(IIII)I"⟩
abbrev cX10_get : ByteArray := prog_1_method_30_code
def yX10_get : MethodName := ⟨RX10, "get", "(III)I"⟩
abbrev cX10_copy : ByteArray := prog_1_method_31_code
def yX10_copy : MethodName := ⟨RX10, "copy", "(IIIII)I"⟩
abbrev cX10_write : ByteArray := prog_1_method_32_code
def yX10_write : MethodName := ⟨RX10, "write", "(II)I"⟩
abbrev cX10_count : ByteArray := prog_1_method_33_code
def yX10_count : MethodName := ⟨RX10, "count", "(I)I"⟩
abbrev cX10_digest : ByteArray := prog_1_method_34_code
def yX10_digest : MethodName := ⟨RX10, "digest", "()J"⟩
abbrev cX10_digestGate : ByteArray := prog_1_method_35_code
def yX10_digestGate : MethodName := ⟨RX10, "digestGate", "(JI)J"⟩
abbrev cX10_digestWay : ByteArray := prog_1_method_36_code
def yX10_digestWay : MethodName := ⟨RX10, "digestWay", "(JI)J"⟩
abbrev cX10_digestTown : ByteArray := prog_1_method_37_code
def yX10_digestTown : MethodName := ⟨RX10, "digestTown", "(JI)J"⟩
abbrev cX10_isText : ByteArray := prog_1_method_38_code
def yX10_isText : MethodName := ⟨RX10, "isText", "(I)Z"⟩
abbrev cX10_isWay : ByteArray := prog_1_method_39_code
def yX10_isWay : MethodName := ⟨RX10, "isWay", "(I)Z"⟩
abbrev cX10_isWayOrClean : ByteArray := prog_1_method_40_code
def yX10_isWayOrClean : MethodName := ⟨RX10, "isWayOrClean", "(I)Z"⟩
abbrev cX10_isTown : ByteArray := prog_1_method_41_code
def yX10_isTown : MethodName := ⟨RX10, "isTown", "(I)Z"⟩
abbrev cX10_arePlaces : ByteArray := prog_1_method_42_code
def yX10_arePlaces : MethodName := ⟨RX10, "arePlaces", "(I)Z"⟩
abbrev cX10_isSheet : ByteArray := prog_1_method_43_code
def yX10_isSheet : MethodName := ⟨RX10, "isSheet", "(I)Z"⟩
abbrev cX10_isForm : ByteArray := prog_1_method_44_code
def yX10_isForm : MethodName := ⟨RX10, "isForm", "(I)Z"⟩
abbrev cX10_areEnds : ByteArray := prog_1_method_45_code
def yX10_areEnds : MethodName := ⟨RX10, "areEnds", "(IIII)Z"⟩
abbrev cX10_longRefusal : ByteArray := prog_1_method_46_code
def yX10_longRefusal : MethodName := ⟨RX10, "longRefusal", "(I)J"⟩
abbrev cX10_byteOf : ByteArray := prog_1_method_47_code
def yX10_byteOf : MethodName := ⟨RX10, "byteOf", "(I)I"⟩
abbrev cX10_learnIfLand : ByteArray := prog_1_method_48_code
def yX10_learnIfLand : MethodName := ⟨RX10, "learnIfLand", "(I)V"⟩
abbrev cX10_wayFault : ByteArray := prog_1_method_49_code
def yX10_wayFault : MethodName := ⟨RX10, "wayFault", "(LStampsCancel$Text;)I"⟩
abbrev cX10_stampWay : ByteArray := prog_1_method_50_code
def yX10_stampWay : MethodName := ⟨RX10, "stampWay", "(ILStampsCancel$Paper;)V"⟩
abbrev cX10_judgeWay : ByteArray := prog_1_method_51_code
def yX10_judgeWay : MethodName := ⟨RX10, "judgeWay", "(III)V"⟩
abbrev cX10_planRoute : ByteArray := prog_1_method_52_code
def yX10_planRoute : MethodName := ⟨RX10, "planRoute", "(IIII)I"⟩
abbrev cX10_listIfRoom : ByteArray := prog_1_method_53_code
def yX10_listIfRoom : MethodName := ⟨RX10, "listIfRoom", "(LStampsCancel$Paper;)V"⟩
def RX11 : String := "StampsCancelModel"
def TX11 : u_T := fun k => match k with
  | 0 => ("StampsCancelModel", "forms", "[I", true)
  | 1 => ("StampsCancelModel", "sizes", "[I", true)
  | 2 => ("StampsCancelModel", "items", "[I", true)
  | 3 => ("StampsCancelModel", "moved", "[I", true)
  | 4 => ("StampsCancelModel", "latest", "I", false)
  | 5 => ("StampsCancelModel", "bytes", "[I", true)
  | 6 => ("StampsCancelModel", "typed", "[I", true)
  | 7 => ("StampsCancelModel", "at", "I", false)
  | 8 => ("StampsCancelModel", "gates", "I", false)
  | 9 => ("StampsCancelModel", "first", "[I", true)
  | 10 => ("StampsCancelModel", "second", "[I", true)
  | 11 => ("StampsCancelModel", "watched", "[Z", true)
  | 12 => ("StampsCancelModel", "roomNow", "I", false)
  | 13 => ("StampsCancelModel", "shutNow", "I", false)
  | 14 => ("StampsCancelModel", "stamps", "[I", true)
  | 15 => ("StampsCancelModel", "lengths", "[I", true)
  | 16 => ("StampsCancelModel", "pairs", "I", false)
  | 17 => ("StampsCancelModel", "unseen", "[I", true)
  | 18 => ("StampsCancelModel", "unseenWays", "[J", true)
  | 19 => ("StampsCancelModel", "between", "[I", true)
  | 20 => ("StampsCancelModel", "betweenMany", "I", false)
  | 21 => ("StampsCancelModel", "fewest", "I", false)
  | 22 => ("StampsCancelModel", "fewestWays", "J", false)
  | 23 => ("StampsCancelModel", "can", "Z", false)
  | 24 => ("StampsCancelModel", "gatesTo", "[I", true)
  | 25 => ("StampsCancelModel", "closed", "[J", true)
  | 26 => ("StampsCancelModel", "sofar", "[J", true)
  | 27 => ("StampsCancelModel", "behind", "[J", true)
  | 28 => ("StampsCancelModel", "listings", "I", false)
  | 29 => ("StampsCancelModel", "listedStamps", "[I", true)
  | 30 => ("StampsCancelModel", "listedLong", "[I", true)
  | 31 => ("StampsCancelModel", "listedGood", "[Z", true)
  | 32 => ("StampsCancelModel", "shown", "[I", true)
  | 33 => ("StampsCancelModel", "farNow", "[I", true)
  | _ => ("StampsCancelModel", "farWas", "[I", true)
def tyX11 : Nat → FieldType := fun k => match k with
  | 0 => .array .int
  | 1 => .array .int
  | 2 => .array .int
  | 3 => .array .int
  | 4 => .int
  | 5 => .array .int
  | 6 => .array .int
  | 7 => .int
  | 8 => .int
  | 9 => .array .int
  | 10 => .array .int
  | 11 => .array .boolean
  | 12 => .int
  | 13 => .int
  | 14 => .array .int
  | 15 => .array .int
  | 16 => .int
  | 17 => .array .int
  | 18 => .array .long
  | 19 => .array .int
  | 20 => .int
  | 21 => .int
  | 22 => .long
  | 23 => .boolean
  | 24 => .array .int
  | 25 => .array .long
  | 26 => .array .long
  | 27 => .array .long
  | 28 => .int
  | 29 => .array .int
  | 30 => .array .int
  | 31 => .array .boolean
  | 32 => .array .int
  | 33 => .array .int
  | _ => .array .int
abbrev wsX110 : List Cond := u_ws RX11 TX11 35
theorem nmX11 : ∀ a, a < 35 → ∀ b, b < 35 → a ≠ b → (TX11 a).2.1 ≠ (TX11 b).2.1 := by decide +kernel
theorem tyX11_ok : ∀ k, k < 35 → parseFieldDescriptor (TX11 k).2.2.1 = some (tyX11 k) := by decide +kernel
abbrev cX11_init : ByteArray := prog_13_method_1_code
def yX11_init : MethodName := ⟨RX11, "<init>", "()V"⟩
abbrev cX11_in : ByteArray := prog_13_method_3_code
def yX11_in : MethodName := ⟨RX11, "in", "(JJJ)Z"⟩
abbrev cX11_no : ByteArray := prog_13_method_4_code
def yX11_no : MethodName := ⟨RX11, "no", "(I)J"⟩
abbrev cX11_isTwo : ByteArray := prog_13_method_5_code
def yX11_isTwo : MethodName := ⟨RX11, "isTwo", "(I)Z"⟩
abbrev cX11_isTown : ByteArray := prog_13_method_6_code
def yX11_isTown : MethodName := ⟨RX11, "isTown", "(I)Z"⟩
abbrev cX11_met : ByteArray := prog_13_method_7_code
def yX11_met : MethodName := ⟨RX11, "met", "(I)I"⟩
abbrev cX11_isSheet : ByteArray := prog_13_method_8_code
def yX11_isSheet : MethodName := ⟨RX11, "isSheet", "(I)Z"⟩
abbrev cX11_sheet : ByteArray := prog_13_method_9_code
def yX11_sheet : MethodName := ⟨RX11, "sheet", "(III)I"⟩
abbrev cX11_lose : ByteArray := prog_13_method_10_code
def yX11_lose : MethodName := ⟨RX11, "lose", "(I)I"⟩
abbrev cX11_lacks : ByteArray := prog_13_method_11_code
def yX11_lacks : MethodName := ⟨RX11, "lacks", "(III)I"⟩
abbrev cX11_cut : ByteArray := prog_13_method_12_code
def yX11_cut : MethodName := ⟨RX11, "cut", "(II)I"⟩
abbrev cX11_lay : ByteArray := prog_13_method_13_code
def yX11_lay : MethodName := ⟨RX11, "lay", "(IIII)I"⟩
abbrev cX11_get : ByteArray := prog_13_method_14_code
def yX11_get : MethodName := ⟨RX11, "get", "(III)I"⟩
abbrev cX11_copy : ByteArray := prog_13_method_15_code
def yX11_copy : MethodName := ⟨RX11, "copy", "(IIIII)I"⟩
abbrev cX11_isText : ByteArray := prog_13_method_16_code
def yX11_isText : MethodName := ⟨RX11, "isText", "(I)Z"⟩
abbrev cX11_isWay : ByteArray := prog_13_method_17_code
def yX11_isWay : MethodName := ⟨RX11, "isWay", "(I)Z"⟩
abbrev cX11_from : ByteArray := prog_13_method_18_code
def yX11_from : MethodName := ⟨RX11, "from", "(I)I"⟩
abbrev cX11_type : ByteArray := prog_13_method_19_code
def yX11_type : MethodName := ⟨RX11, "type", "(II)I"⟩
abbrev cX11_wipe : ByteArray := prog_13_method_20_code
def yX11_wipe : MethodName := ⟨RX11, "wipe", "(I)I"⟩
abbrev cX11_here : ByteArray := prog_13_method_21_code
def yX11_here : MethodName := ⟨RX11, "here", "()I"⟩
abbrev cX11_clears : ByteArray := prog_13_method_22_code
def yX11_clears : MethodName := ⟨RX11, "clears", "()V"⟩
abbrev cX11_readsRoom : ByteArray := prog_13_method_23_code
def yX11_readsRoom : MethodName := ⟨RX11, "readsRoom", "()Z"⟩
abbrev cX11_readsPart : ByteArray := prog_13_method_24_code
def yX11_readsPart : MethodName := ⟨RX11, "readsPart", "()Z"⟩
abbrev cX11_readsLand : ByteArray := prog_13_method_25_code
def yX11_readsLand : MethodName := ⟨RX11, "readsLand", "()I"⟩
abbrev cX11_letterOf : ByteArray := prog_13_method_26_code
def yX11_letterOf : MethodName := ⟨RX11, "letterOf", "(I)I"⟩
abbrev cX11_byteOf : ByteArray := prog_13_method_27_code
def yX11_byteOf : MethodName := ⟨RX11, "byteOf", "(I)I"⟩
abbrev cX11_faultOf : ByteArray := prog_13_method_28_code
def yX11_faultOf : MethodName := ⟨RX11, "faultOf", "(I)I"⟩
abbrev cX11_fault : ByteArray := prog_13_method_29_code
def yX11_fault : MethodName := ⟨RX11, "fault", "(I)I"⟩
abbrev cX11_start : ByteArray := prog_13_method_30_code
def yX11_start : MethodName := ⟨RX11, "start", "(I)I"⟩
abbrev cX11_end : ByteArray := prog_13_method_31_code
def yX11_end : MethodName := ⟨RX11, "end", "(I)I"⟩
abbrev cX11_back : ByteArray := prog_13_method_32_code
def yX11_back : MethodName := ⟨RX11, "back", "(I)I"⟩
abbrev cX11_isShut : ByteArray := prog_13_method_33_code
def yX11_isShut : MethodName := ⟨RX11, "isShut", "(I)Z"⟩
abbrev cX11_gate : ByteArray := prog_13_method_34_code
def yX11_gate : MethodName := ⟨RX11, "gate", "(II)I"⟩
abbrev cX11_room : ByteArray := prog_13_method_35_code
def yX11_room : MethodName := ⟨RX11, "room", "()I"⟩
abbrev cX11_shut : ByteArray := prog_13_method_36_code
def yX11_shut : MethodName := ⟨RX11, "shut", "(I)I"⟩
abbrev cX11_stamp : ByteArray := prog_13_method_37_code
def yX11_stamp : MethodName := ⟨RX11, "stamp", "(II)V"⟩
abbrev cX11_lengthOf : ByteArray := prog_13_method_38_code
def yX11_lengthOf : MethodName := ⟨RX11, "lengthOf", "(I)I"⟩
abbrev cX11_letterAt : ByteArray := prog_13_method_39_code
def yX11_letterAt : MethodName := ⟨RX11, "letterAt", "(II)I"⟩
abbrev cX11_findPaper : ByteArray := prog_13_method_40_code
def yX11_findPaper : MethodName := ⟨RX11, "findPaper", "(II)V"⟩
abbrev cX11_paper : ByteArray := prog_13_method_41_code
def yX11_paper : MethodName := ⟨RX11, "paper", "(II)I"⟩
abbrev cX11_isBegun : ByteArray := prog_13_method_42_code
def yX11_isBegun : MethodName := ⟨RX11, "isBegun", "(I)Z"⟩
abbrev cX11_judgedOf : ByteArray := prog_13_method_43_code
def yX11_judgedOf : MethodName := ⟨RX11, "judgedOf", "(IIII)I"⟩
abbrev cX11_judged : ByteArray := prog_13_method_44_code
def yX11_judged : MethodName := ⟨RX11, "judged", "(IIII)I"⟩
abbrev cX11_alike : ByteArray := prog_13_method_45_code
def yX11_alike : MethodName := ⟨RX11, "alike", "()I"⟩
abbrev cX11_sameOf : ByteArray := prog_13_method_46_code
def yX11_sameOf : MethodName := ⟨RX11, "sameOf", "(II)I"⟩
abbrev cX11_same : ByteArray := prog_13_method_47_code
def yX11_same : MethodName := ⟨RX11, "same", "(II)I"⟩
abbrev cX11_isUnseen : ByteArray := prog_13_method_48_code
def yX11_isUnseen : MethodName := ⟨RX11, "isUnseen", "(I)Z"⟩
abbrev cX11_findUnseen : ByteArray := prog_13_method_49_code
def yX11_findUnseen : MethodName := ⟨RX11, "findUnseen", "()V"⟩
abbrev cX11_findBetween : ByteArray := prog_13_method_50_code
def yX11_findBetween : MethodName := ⟨RX11, "findBetween", "()V"⟩
abbrev cX11_findShortest : ByteArray := prog_13_method_51_code
def yX11_findShortest : MethodName := ⟨RX11, "findShortest", "(IIII)V"⟩
abbrev cX11_goesOn : ByteArray := prog_13_method_52_code
def yX11_goesOn : MethodName := ⟨RX11, "goesOn", "(II)V"⟩
abbrev cX11_shortestOf : ByteArray := prog_13_method_53_code
def yX11_shortestOf : MethodName := ⟨RX11, "shortestOf", "(IIIII)J"⟩
abbrev cX11_isAsked : ByteArray := prog_13_method_54_code
def yX11_isAsked : MethodName := ⟨RX11, "isAsked", "(IIII)Z"⟩
abbrev cX11_shortest : ByteArray := prog_13_method_55_code
def yX11_shortest : MethodName := ⟨RX11, "shortest", "(IIIII)J"⟩
abbrev cX11_leastUnseen : ByteArray := prog_13_method_56_code
def yX11_leastUnseen : MethodName := ⟨RX11, "leastUnseen", "(II)I"⟩
abbrev cX11_letter : ByteArray := prog_13_method_57_code
def yX11_letter : MethodName := ⟨RX11, "letter", "(IIIII)I"⟩
abbrev cX11_findErrands : ByteArray := prog_13_method_58_code
def yX11_findErrands : MethodName := ⟨RX11, "findErrands", "(I)V"⟩
abbrev cX11_stampsTo : ByteArray := prog_13_method_59_code
def yX11_stampsTo : MethodName := ⟨RX11, "stampsTo", "(I)I"⟩
abbrev cX11_errandsOf : ByteArray := prog_13_method_60_code
def yX11_errandsOf : MethodName := ⟨RX11, "errandsOf", "(III)I"⟩
abbrev cX11_errands : ByteArray := prog_13_method_61_code
def yX11_errands : MethodName := ⟨RX11, "errands", "(III)I"⟩
abbrev cX11_cleanOf : ByteArray := prog_13_method_62_code
def yX11_cleanOf : MethodName := ⟨RX11, "cleanOf", "(I)I"⟩
abbrev cX11_clean : ByteArray := prog_13_method_63_code
def yX11_clean : MethodName := ⟨RX11, "clean", "(I)I"⟩
abbrev cX11_foundOf : ByteArray := prog_13_method_64_code
def yX11_foundOf : MethodName := ⟨RX11, "foundOf", "(II)I"⟩
abbrev cX11_found : ByteArray := prog_13_method_65_code
def yX11_found : MethodName := ⟨RX11, "found", "(II)I"⟩
abbrev cX11_index : ByteArray := prog_13_method_66_code
def yX11_index : MethodName := ⟨RX11, "index", "(IIII)I"⟩
abbrev cX11_findClosed : ByteArray := prog_13_method_67_code
def yX11_findClosed : MethodName := ⟨RX11, "findClosed", "(I)V"⟩
abbrev cX11_closedBy : ByteArray := prog_13_method_68_code
def yX11_closedBy : MethodName := ⟨RX11, "closedBy", "(IIIII)J"⟩
abbrev cX11_follows : ByteArray := prog_13_method_69_code
def yX11_follows : MethodName := ⟨RX11, "follows", "(IIII)V"⟩
abbrev cX11_manyOf : ByteArray := prog_13_method_70_code
def yX11_manyOf : MethodName := ⟨RX11, "manyOf", "(IIII)J"⟩
abbrev cX11_many : ByteArray := prog_13_method_71_code
def yX11_many : MethodName := ⟨RX11, "many", "(IIII)J"⟩
abbrev cX11_lists : ByteArray := prog_13_method_72_code
def yX11_lists : MethodName := ⟨RX11, "lists", "(Z)I"⟩
abbrev cX11_list : ByteArray := prog_13_method_73_code
def yX11_list : MethodName := ⟨RX11, "list", "(II)I"⟩
abbrev cX11_read : ByteArray := prog_13_method_74_code
def yX11_read : MethodName := ⟨RX11, "read", "(I)I"⟩
abbrev cX11_unlist : ByteArray := prog_13_method_75_code
def yX11_unlist : MethodName := ⟨RX11, "unlist", "()I"⟩
abbrev cX11_listedAt : ByteArray := prog_13_method_76_code
def yX11_listedAt : MethodName := ⟨RX11, "listedAt", "(II)I"⟩
abbrev cX11_listed : ByteArray := prog_13_method_77_code
def yX11_listed : MethodName := ⟨RX11, "listed", "(II)I"⟩
abbrev cX11_letsBy : ByteArray := prog_13_method_78_code
def yX11_letsBy : MethodName := ⟨RX11, "letsBy", "(I)Z"⟩
abbrev cX11_arePlaces : ByteArray := prog_13_method_79_code
def yX11_arePlaces : MethodName := ⟨RX11, "arePlaces", "(I)Z"⟩
abbrev cX11_lets : ByteArray := prog_13_method_80_code
def yX11_lets : MethodName := ⟨RX11, "lets", "(II)I"⟩
abbrev cX11_slipsOf : ByteArray := prog_13_method_81_code
def yX11_slipsOf : MethodName := ⟨RX11, "slipsOf", "(I)I"⟩
abbrev cX11_slips : ByteArray := prog_13_method_82_code
def yX11_slips : MethodName := ⟨RX11, "slips", "(I)I"⟩
abbrev cX11_ones : ByteArray := prog_13_method_83_code
def yX11_ones : MethodName := ⟨RX11, "ones", "(I)I"⟩
abbrev cX11_fewestNow : ByteArray := prog_13_method_84_code
def yX11_fewestNow : MethodName := ⟨RX11, "fewestNow", "()I"⟩
abbrev cX11_fewest : ByteArray := prog_13_method_85_code
def yX11_fewest : MethodName := ⟨RX11, "fewest", "()I"⟩
abbrev cX11_findFar : ByteArray := prog_13_method_86_code
def yX11_findFar : MethodName := ⟨RX11, "findFar", "(III)V"⟩
abbrev cX11_joins : ByteArray := prog_13_method_87_code
def yX11_joins : MethodName := ⟨RX11, "joins", "(II)V"⟩
abbrev cX11_farOf : ByteArray := prog_13_method_88_code
def yX11_farOf : MethodName := ⟨RX11, "farOf", "(II)I"⟩
abbrev cX11_far : ByteArray := prog_13_method_89_code
def yX11_far : MethodName := ⟨RX11, "far", "(II)I"⟩
abbrev cX11_changed : ByteArray := prog_13_method_90_code
def yX11_changed : MethodName := ⟨RX11, "changed", "(IIII)I"⟩
abbrev cX11_without : ByteArray := prog_13_method_91_code
def yX11_without : MethodName := ⟨RX11, "without", "(II)I"⟩
abbrev cX11_with : ByteArray := prog_13_method_92_code
def yX11_with : MethodName := ⟨RX11, "with", "(III)I"⟩
abbrev cX11_write : ByteArray := prog_13_method_93_code
def yX11_write : MethodName := ⟨RX11, "write", "(II)I"⟩
abbrev cX11_count : ByteArray := prog_13_method_94_code
def yX11_count : MethodName := ⟨RX11, "count", "(I)I"⟩
abbrev cX11_digest : ByteArray := prog_13_method_95_code
def yX11_digest : MethodName := ⟨RX11, "digest", "()J"⟩
def RJ6 : String := "java/lang/Integer"
def TJ6 : u_T := fun k => match k with
  | _ => ("", "", "", false)
def tyJ6 : Nat → FieldType := fun k => match k with
  | _ => .int
abbrev wsJ60 : List Cond := u_ws RJ6 TJ6 0
theorem nmJ6 : ∀ a, a < 0 → ∀ b, b < 0 → a ≠ b → (TJ6 a).2.1 ≠ (TJ6 b).2.1 := by decide +kernel
theorem tyJ6_ok : ∀ k, k < 0 → parseFieldDescriptor (TJ6 k).2.2.1 = some (tyJ6 k) := by decide +kernel
abbrev cJ6_bitCount_0f7a4 : ByteArray := prog_14_method_49_code
def yJ6_bitCount_0f7a4 : MethodName := ⟨RJ6, "bitCount", "(I)I"⟩
def RJ9 : String := "java/lang/Math"
def TJ9 : u_T := fun k => match k with
  | _ => ("", "", "", false)
def tyJ9 : Nat → FieldType := fun k => match k with
  | _ => .int
abbrev wsJ90 : List Cond := u_ws RJ9 TJ9 0
theorem nmJ9 : ∀ a, a < 0 → ∀ b, b < 0 → a ≠ b → (TJ9 a).2.1 ≠ (TJ9 b).2.1 := by decide +kernel
theorem tyJ9_ok : ∀ k, k < 0 → parseFieldDescriptor (TJ9 k).2.2.1 = some (tyJ9 k) := by decide +kernel
abbrev cJ9_abs_0f7a4 : ByteArray := prog_15_method_59_code
def yJ9_abs_0f7a4 : MethodName := ⟨RJ9, "abs", "(I)I"⟩
abbrev cJ9_max_7cf53 : ByteArray := prog_15_method_65_code
def yJ9_max_7cf53 : MethodName := ⟨RJ9, "max", "(II)I"⟩
abbrev cJ9_min_7cf53 : ByteArray := prog_15_method_69_code
def yJ9_min_7cf53 : MethodName := ⟨RJ9, "min", "(II)I"⟩
def RJ10 : String := "java/lang/System"
def TJ10 : u_T := fun k => match k with
  | _ => ("", "", "", false)
def tyJ10 : Nat → FieldType := fun k => match k with
  | _ => .int
abbrev wsJ100 : List Cond := u_ws RJ10 TJ10 0
theorem nmJ10 : ∀ a, a < 0 → ∀ b, b < 0 → a ≠ b → (TJ10 a).2.1 ≠ (TJ10 b).2.1 := by decide +kernel
theorem tyJ10_ok : ∀ k, k < 0 → parseFieldDescriptor (TJ10 k).2.2.1 = some (tyJ10 k) := by decide +kernel
def RJ7 : String := "java/util/Arrays"
def TJ7 : u_T := fun k => match k with
  | _ => ("", "", "", false)
def tyJ7 : Nat → FieldType := fun k => match k with
  | _ => .int
abbrev wsJ70 : List Cond := u_ws RJ7 TJ7 0
theorem nmJ7 : ∀ a, a < 0 → ∀ b, b < 0 → a ≠ b → (TJ7 a).2.1 ≠ (TJ7 b).2.1 := by decide +kernel
theorem tyJ7_ok : ∀ k, k < 0 → parseFieldDescriptor (TJ7 k).2.2.1 = some (tyJ7 k) := by decide +kernel
abbrev cJ7_fill_d0a16 : ByteArray := prog_17_method_101_code
def yJ7_fill_d0a16 : MethodName := ⟨RJ7, "fill", "([JJ)V"⟩
abbrev cJ7_fill_53178 : ByteArray := prog_17_method_103_code
def yJ7_fill_53178 : MethodName := ⟨RJ7, "fill", "([II)V"⟩
def RL : String := "StampsCancelLaw"
abbrev cL_law : ByteArray := code
def yL_law : MethodName := ⟨RL, "law", "([I)Z"⟩
end
section
/-! The world as one memory. Every cell that the two constructors make has a number (in the order of making); what a cell is, how long it is and where its references lead never changes afterwards. So a state of both objects is a memory: ints by cell and place, longs by cell and place. -/
abbrev MT : Type := MethodName × ByteArray × Nat × Option FieldType × Nat × Nat
abbrev Mem : Type := (Nat → Nat → Int32) × (Nat → Nat → Int64)
abbrev EV : Type := Launch × va_G × (Nat → ClassId) × Nat
def tbG : List Cond := lw_tbl.filter goodWord
theorem tb_mem {w : Cond} (h : w ∈ lw_tbl) (g : goodWord w = true) : w ∈ tbG := List.mem_filter.mpr ⟨h, g⟩
theorem tb_at (i : Nat) {w : Cond} (h : tables_1[i]? = some w) (g : goodWord w = true) : w ∈ tbG := tb_mem (List.mem_append_right _ (List.mem_of_getElem? h)) g
theorem tb_ps (i : Nat) {w : Cond} (h : (k2_sels lw_privs)[i]? = some w) (g : goodWord w = true) : w ∈ tbG := tb_mem (List.mem_append_left _ (List.mem_of_getElem? h)) g
theorem tb_good {w : Cond} (h : w ∈ tbG) : (w.onTables && w.keeps) = true ∨ ∃ ty, w = .arrayClass ty := good_of_word (List.mem_filter.mp h).2
theorem tb_in : GoodIn tbG tbG := fun w h => ⟨h, tb_good h⟩
theorem tb_places {ws : List Cond} (ps : List Nat) (hp : ws = ps.filterMap (fun i => tables_1[i]?)) (g : ws.all goodWord = true) : ∀ w ∈ ws, w ∈ tbG := by
  intro w hw
  have h1 := List.all_eq_true.mp g w hw
  rw [hp] at hw
  obtain ⟨i, -, hi⟩ := List.mem_filterMap.mp hw
  exact tb_at i hi h1
def mws (M : MT) : List Cond := Cond.code M.1 M.2.1 M.2.2.1 M.2.2.2.1 :: tbG
def mrm (M : MT) : Room := { frames := M.2.2.2.2.1, cells := 0, slots := 0, locals := M.2.2.2.2.2 }
theorem mws_good {M : MT} (h : Cond.code M.1 M.2.1 M.2.2.1 M.2.2.2.1 ∈ tbG) : GoodIn tbG (mws M) := fun w hw => by
  rcases List.mem_cons.mp hw with rfl | h2
  · exact ⟨h, tb_good h⟩
  · exact tb_in w h2
def shp : List (Nat × Nat × List Nat) := [(10, 12, [1, 3, 4, 6, 8, 11, 27, 42, 78, 83, 95, 107]), (3, 6, [2, 0, 0, 0, 0, 0]), (20, 18, []), (23, 4, []), (5, 2, [5, 0]), (20, 60, []), (5, 2, [7, 0]), (20, 60, []), (2, 6, [1, 9, 0, 0, 0, 0]), (5, 2, [10, 0]), (20, 60, []), (6, 6, [1, 12, 24, 0, 25, 26]), (0, 3, [13, 22, 23]), (24, 8, []), (20, 8, []), (20, 8, []), (20, 8, []), (20, 8, []), (20, 8, []), (20, 8, []), (20, 8, []), (20, 8, []), (20, 8, []), (20, 8, []), (20, 120, []), (21, 8, []), (21, 8, []), (1, 4, [1, 28, 40, 41]), (0, 3, [29, 38, 39]), (24, 8, []), (20, 8, []), (20, 8, []), (20, 8, []), (20, 8, []), (20, 8, []), (20, 8, []), (20, 8, []), (20, 8, []), (20, 8, []), (20, 8, []), (20, 8, []), (20, 8, []), (9, 7, [1, 43, 55, 56, 75, 76, 77]), (0, 3, [44, 53, 54]), (24, 8, []), (20, 8, []), (20, 8, []), (20, 8, []), (20, 8, []), (20, 8, []), (20, 8, []), (20, 8, []), (20, 8, []), (20, 8, []), (20, 8, []), (20, 8, []), (25, 18, []), (21, 104, []), (21, 104, []), (21, 104, []), (21, 104, []), (21, 104, []), (21, 104, []), (21, 104, []), (21, 104, []), (21, 104, []), (21, 104, []), (21, 104, []), (21, 104, []), (21, 104, []), (21, 104, []), (21, 104, []), (21, 104, []), (21, 104, []), (21, 104, []), (21, 104, []), (21, 104, []), (21, 13, []), (4, 5, [79, 80, 81, 82, 0]), (20, 132, []), (20, 12, []), (20, 12, []), (20, 144, []), (0, 3, [84, 93, 94]), (24, 8, []), (20, 8, []), (20, 8, []), (20, 8, []), (20, 8, []), (20, 8, []), (20, 8, []), (20, 8, []), (20, 8, []), (20, 8, []), (20, 8, []), (0, 3, [96, 105, 106]), (24, 8, []), (20, 8, []), (20, 8, []), (20, 8, []), (20, 8, []), (20, 8, []), (20, 8, []), (20, 8, []), (20, 8, []), (20, 8, []), (20, 8, []), (7, 4, [108, 113, 114, 0]), (24, 4, []), (20, 60, []), (20, 60, []), (20, 60, []), (20, 60, []), (20, 4, []), (20, 4, []), (8, 3, [116, 0, 0]), (20, 50, []), (8, 3, [118, 0, 0]), (20, 50, []), (8, 3, [120, 0, 0]), (20, 50, []), (8, 3, [122, 0, 0]), (20, 50, []), (11, 35, [124, 125, 126, 127, 0, 128, 129, 0, 0, 130, 131, 132, 0, 0, 133, 134, 0, 135, 136, 137, 0, 0, 0, 0, 138, 139, 140, 141, 0, 142, 143, 144, 145, 146, 147]), (20, 4, []), (20, 4, []), (20, 240, []), (20, 60, []), (20, 140, []), (20, 4, []), (20, 9, []), (20, 9, []), (22, 9, []), (20, 120, []), (20, 2, []), (20, 64, []), (21, 64, []), (20, 120, []), (20, 96, []), (21, 15808, []), (21, 13, []), (21, 13, []), (20, 720, []), (20, 12, []), (22, 12, []), (20, 11, []), (20, 64, []), (20, 64, [])]
def NC : Nat := 148
def kd (o : Nat) : Nat := (shp.getD o (99, 0, [])).1
def ln (o : Nat) : Nat := (shp.getD o (99, 0, [])).2.1
def rf (o k : Nat) : Nat := if kd o = 23 then 115 + 2 * k else if kd o < 23 then (shp.getD o (99, 0, [])).2.2.getD k 0 else o + 1 + k
def ftys : List (List Nat) := [[1, 1, 1], [1, 1, 1, 1], [1, 1, 0, 0, 0, 0], [1, 0, 0, 0, 0, 0], [1, 1, 1, 1, 0], [1, 0], [1, 1, 1, 0, 1, 1], [1, 1, 1, 0], [1, 0, 0], [1, 1, 1, 1, 1, 1, 1], [1, 1, 1, 1, 1, 1, 1, 1, 1, 1, 1, 1], [1, 1, 1, 1, 0, 1, 1, 0, 0, 1, 1, 1, 0, 0, 1, 1, 0, 1, 1, 1, 0, 0, 2, 3, 1, 1, 1, 1, 0, 1, 1, 1, 1, 1, 1]]
abbrev classes : List vw_C := [(RX0, TX0, 3), (RX1, TX1, 4), (RX2, TX2, 6), (RX3, TX3, 6), (RX4, TX4, 5), (RX5, TX5, 2), (RX6, TX6, 6), (RX7, TX7, 4), (RX8, TX8, 3), (RX9, TX9, 7), (RX10, TX10, 12), (RX11, TX11, 35)]
def ft (c k : Nat) : Nat := (ftys.getD c []).getD k 0
/-- a value with its cell's number for its address -/
def sh (sz : Nat) (v : Value) : Value := match v with
  | .ref a => .ref (sz + a)
  | w => w
def shl (sz : Nat) (q : Nat × Value) : Nat × Value := (q.1, sh sz q.2)
/-- what a field holds -/
def fp (μ : Mem) (o k : Nat) : Value := if ft (kd o) k = 1 then .ref (rf o k) else if ft (kd o) k = 2 then .long (μ.2 o k) else .int (μ.1 o k)
def ce (E : EV) (μ : Mem) (o : Nat) : va_E :=
  if kd o < 20 then .inr (kd o, (List.range (ln o)).map (fun k => sh E.2.2.2 (fp μ o k)))
  else .inl (E.2.2.1 (kd o), ln o, if kd o = 21 then .inr (.inl (μ.2 o)) else if kd o < 23 then .inl (μ.1 o) else .inr (.inr (.inr (.inr (fun j => some (E.2.2.2 + rf o j))))))
def wd (E : EV) (μ : Mem) : va_W := (List.range NC).map (fun o => (E.2.2.2 + o, ce E μ o))
abbrev tys (E : EV) : List (ClassId × FieldType) := [(E.2.2.1 20, .int), (E.2.2.1 21, .long), (E.2.2.1 22, .boolean), (E.2.2.1 23, .object "StampsCancel$Text"), (E.2.2.1 24, .array .int), (E.2.2.1 25, .array .long)]
def nw (s : State) : Prop := va_Nw (.methodLinkNest RX0 35 yX10_isTown RX10) s ∧ va_Nw (.methodLinkNest RX6 96 yX10_isTown RX10) s ∧ va_Nw (.methodLinkNest RX9 47 yX10_isTown RX10) s
theorem nw_warm {s U : State} (hW : s.WarmedH U.vm) (h : nw s) : nw U := ⟨va_Nw.warmM hW h.1, va_Nw.warmM hW h.2.1, va_Nw.warmM hW h.2.2⟩
theorem nw_same {s U : State} (hW : s.vm = U.vm) (h : nw s) : nw U := ⟨va_Nw.same rfl hW h.1, va_Nw.same rfl hW h.2.1, va_Nw.same rfl hW h.2.2⟩
/-- one int, one long of the memory becomes another -/
def mI (μ : Mem) (o k : Nat) (x : Int32) : Mem := (fun a b => if a = o ∧ b = k then x else μ.1 a b, μ.2)
def mJ (μ : Mem) (o k : Nat) (x : Int64) : Mem := (μ.1, fun a b => if a = o ∧ b = k then x else μ.2 a b)
theorem kd_lt {o : Nat} (h : kd o ≠ 99) : o < NC := by
  rcases Nat.lt_or_ge o NC with q | q
  · exact q
  · refine absurd ?_ h
    unfold kd
    rw [List.getD_eq_getElem?_getD, List.getElem?_eq_none (by exact q)]
    rfl
theorem kd_lt20 {o : Nat} (h : kd o < 30) : o < NC := kd_lt (by omega)
theorem wd_get {E : EV} {μ : Mem} {o : Nat} (h : o < NC) : (wd E μ)[o]? = some (E.2.2.2 + o, ce E μ o) := by
  unfold wd
  rw [List.getElem?_map, List.getElem?_range h]
  rfl
theorem wd_D (E : EV) (μ : Mem) : va_D (fun q => E.2.2.2 ≤ q) (wd E μ) := by
  refine ⟨fun i j p q hi hj hpq => ?_, fun k q hk => ?_⟩
  · have li : i < NC := by
      have := (List.getElem?_eq_some_iff.mp hi).1
      simpa [wd] using this
    have lj : j < NC := by
      have := (List.getElem?_eq_some_iff.mp hj).1
      simpa [wd] using this
    rw [wd_get li] at hi
    rw [wd_get lj] at hj
    cases hi
    cases hj
    have : E.2.2.2 + i = E.2.2.2 + j := hpq
    omega
  · have lk : k < NC := by
      have := (List.getElem?_eq_some_iff.mp hk).1
      simpa [wd] using this
    rw [wd_get lk] at hk
    cases hk
    exact Nat.le_add_right _ _
theorem wd_set {E : EV} {μ ν : Mem} {o : Nat} {x : va_E} (h : o < NC) (hx : ce E ν o = x) (hn : ∀ a, a ≠ o → ce E ν a = ce E μ a) : (wd E μ).set o (E.2.2.2 + o, x) = wd E ν := by
  apply List.ext_getElem?
  intro i
  rw [List.getElem?_set]
  by_cases e : o = i
  · subst e
    rw [if_pos rfl, if_pos (by simpa [wd] using h), wd_get h, hx]
  · rw [if_neg e]
    unfold wd
    rw [List.getElem?_map, List.getElem?_map]
    by_cases l : i < NC
    · rw [List.getElem?_range l]
      show some (E.2.2.2 + i, ce E μ i) = some (E.2.2.2 + i, ce E ν i)
      rw [hn i (fun q => e q.symm)]
    · rw [List.getElem?_eq_none (by simpa using l)]
      rfl
theorem mI_ne {μ : Mem} {o k : Nat} {x : Int32} {a : Nat} (h : a ≠ o) : (mI μ o k x).1 a = μ.1 a := by
  funext b
  simp [mI, h]
theorem mJ_ne {μ : Mem} {o k : Nat} {x : Int64} {a : Nat} (h : a ≠ o) : (mJ μ o k x).2 a = μ.2 a := by
  funext b
  simp [mJ, h]
theorem ce_congr {E : EV} {μ ν : Mem} {a : Nat} (h1 : ν.1 a = μ.1 a) (h2 : ν.2 a = μ.2 a) : ce E ν a = ce E μ a := by
  unfold ce fp
  rw [h1, h2]
theorem ce_mI {E : EV} {μ : Mem} {o k : Nat} {x : Int32} {a : Nat} (h : a ≠ o) : ce E (mI μ o k x) a = ce E μ a := ce_congr (mI_ne h) rfl
theorem ce_mJ {E : EV} {μ : Mem} {o k : Nat} {x : Int64} {a : Nat} (h : a ≠ o) : ce E (mJ μ o k x) a = ce E μ a := ce_congr rfl (mJ_ne h)
/-- what a method's body stands on -/
def Cx (E : EV) (M : MT) (p : Program) (s : State) (m : MethodId) (args : Array Value) (meth : Method) (c : Code) : Prop :=
  p.tables.exec = Jvm.exec ∧ c.code = M.2.1 ∧ meth.sig.returnType = M.2.2.2.1 ∧ c.maxLocals = M.2.2.1 ∧ s.vm.findClass M.1.cls = some m.cls ∧ (∀ w ∈ tbG, w.before args s = true) ∧ meth.locks = false ∧ va_K E.2.1 classes (tys E) s ∧ nw s
abbrev Po : Type := Option Value → Mem → Prop
abbrev Fz (E : EV) : Nat → Prop := fun q => E.2.2.2 ≤ q
def Qd (E : EV) (Q : Po) : Array Value → State → Outcome → State → Prop := fun _ st o t => (∃ (v : Option Value) (ν : Mem), o = .returned (v.map (sh E.2.2.2)) ∧ Q v ν ∧ va_P E.2.1 classes (wd E ν) t.heap) ∧ va_F (Fz E) st t
/-- from this place of the body, with these locals, this stack and this memory, the method comes to its end, and Q holds of its answer and of the memory then -/
def Ex (E : EV) (M : MT) (Q : Po) (pc : Nat) (ls : List (Nat × Value)) (st : List Value) (μ : Mem) : Prop :=
  ∀ (p : Program) (e : Env) (s : State) (m : MethodId) (args : Array Value) (below : List Frame) (meth : Method) (c : Code), Cx E M p s m args meth c →
    ∀ (H : Heap) (locs : List Loc) (lr : Array Slot), lv_has lr M.2.2.1 (ls.map (shl E.2.2.2)) → va_P E.2.1 classes (wd E μ) H → va_S (Fz E) s.heap H locs →
      W p E.1 e (mrm M) s m args below meth c H locs 0 0 (MQ below (Qd E Q) args s 0 0 (Fz E)) (F0 m pc lr (st.map (sh E.2.2.2)))
/-- a method's contract: with these arguments and this memory it ends, and Q holds -/
def Sp (E : EV) (M : MT) (as : List Value) (μ : Mem) (Q : Po) : Prop :=
  Met E.1 M.1 (mws M) (mrm M) (va_Pc (as.map (sh E.2.2.2)) (fun U => va_P E.2.1 classes (wd E μ) U.heap ∧ va_K E.2.1 classes (tys E) U ∧ nw U)) (Qd E Q) 0 0 (Fz E)
theorem sh_cat (sz : Nat) (v : Value) : (sh sz v).category = v.category := by cases v <;> rfl
theorem lv_args_sh (sz : Nat) : ∀ (as : List Value) (i : Nat), lv_args i (as.map (sh sz)) = (lv_args i as).map (shl sz)
  | [], _ => rfl
  | v :: as, i => by
    show (i, sh sz v) :: lv_args (if (sh sz v).category = 2 then i + 2 else i + 1) (as.map (sh sz)) = (i, sh sz v) :: (lv_args (if v.category = 2 then i + 2 else i + 1) as).map (shl sz)
    rw [sh_cat, lv_args_sh sz as]
theorem lg_sl_len (sz : Nat) : ∀ as : List Value, (lg_sl (as.map (sh sz))).length = (lg_sl as).length
  | [] => rfl
  | v :: as => by
    have h := lg_sl_len sz as
    unfold lg_sl at h ⊢
    rw [List.map_cons, List.flatMap_cons, List.flatMap_cons, List.length_append, List.length_append, h, sh_cat]
    by_cases q : v.category = 2 <;> simp [q]
theorem Sp.of {E : EV} {M : MT} {as : List Value} {μ : Mem} {Q : Po} (hy : plainName M.1.cls = true) (hn : (lg_sl as).length ≤ M.2.2.1) {ls : List (Nat × Value)} (hl : lv_args 0 as = ls) (h : Ex E M Q 0 ls [] μ) : Sp E M as μ Q := by
  refine Met.ofW (cc := M.2.1) (maxL := M.2.2.1) (ret := M.2.2.2.1) hy rfl ?_
  intro p e s m args below meth c s₁ B hml hv
  obtain ⟨rfl, hP, hK, hN⟩ := hv
  have hts := atoms_spec (ws := mws M) B.pre
  have hown : s.vm.findClass M.1.cls = some m.cls := findClass_of_methodNamed B.named
  subst hl
  have he := lv_entry (as.map (sh E.2.2.2)) (n := M.2.2.1) (by rw [lg_sl_len]; exact hn)
  rw [lv_args_sh] at he
  rw [lg_entry_eq]
  exact h p e s m _ below meth c ⟨B.exec, B.bytes, B.returns, hml, hown, fun w hw => hts w (List.mem_cons_of_mem _ hw), B.notSynchronized, hK, hN⟩ s.heap [] _ he hP va_S.rf
theorem MQ.mono {E : EV} {below : List Frame} {Q Q' : Po} {a : Array Value} {s t : State} (h : ∀ v ν, Q v ν → Q' v ν) (hq : MQ below (Qd E Q) a s 0 0 (Fz E) t) : MQ below (Qd E Q') a s 0 0 (Fz E) t := by
  obtain ⟨o, h1, h2, ⟨⟨v, ν, h3, h4, h5⟩, h6⟩, h7⟩ := hq
  exact ⟨o, h1, h2, ⟨⟨v, ν, h3, h v ν h4, h5⟩, h6⟩, h7⟩
theorem Ex.mono {E : EV} {M : MT} {Q Q' : Po} {pc : Nat} {ls : List (Nat × Value)} {st : List Value} {μ : Mem} (h : ∀ v ν, Q v ν → Q' v ν) (k : Ex E M Q pc ls st μ) : Ex E M Q' pc ls st μ := by
  intro p e s m args below meth c hc H locs lr hl hP hS T hT X
  obtain ⟨t, a, b⟩ := k p e s m args below meth c hc H locs lr hl hP hS T hT X
  exact ⟨t, a, MQ.mono h b⟩
theorem Sp.mono {E : EV} {M : MT} {as : List Value} {μ : Mem} {Q Q' : Po} (k : Sp E M as μ Q) (h : ∀ v ν, Q v ν → Q' v ν) : Sp E M as μ Q' := by
  intro p e ha hc hk s m args below hf happ hP hT
  obtain ⟨t, o, h1, h2, h3, ⟨⟨v, ν, q1, q2, q3⟩, q4⟩, h5⟩ := k p e ha hc hk s m args below hf happ hP hT
  exact ⟨t, o, h1, h2, h3, ⟨⟨v, ν, q1, h v ν q2, q3⟩, q4⟩, h5⟩
end
section
section XR
variable {E : EV} {M : MT} {Q : Po} {pc : Nat} {ls : List (Nat × Value)} {st : List Value} {μ : Mem}
theorem x_iconst {n : Int} {v : Int32} (hv : Int32.ofInt n = v) (hd : decode M.2.1 pc = .ok (.iconst n, 1)) (k : Ex E M Q (pc + 1) ls (.int v :: st) μ) : Ex E M Q pc ls (st) μ := by
  intro p e s m args below meth c hc H locs lr hl hP hS
  exact lv_iconst hc.1 hc.2.1 hd hv (k p e s m args below meth c hc H locs lr hl hP hS)
theorem x_bipush {n : Int} {v : Int32} (hv : (Int8.ofInt n).toInt32 = v) (hd : decode M.2.1 pc = .ok (.bipush n, 2)) (k : Ex E M Q (pc + 2) ls (.int v :: st) μ) : Ex E M Q pc ls (st) μ := by
  intro p e s m args below meth c hc H locs lr hl hP hS
  exact lv_bipush hc.1 hc.2.1 hd hv (k p e s m args below meth c hc H locs lr hl hP hS)
theorem x_sipush {n : Int} {v : Int32} (hv : (Int16.ofInt n).toInt32 = v) (hd : decode M.2.1 pc = .ok (.sipush n, 3)) (k : Ex E M Q (pc + 3) ls (.int v :: st) μ) : Ex E M Q pc ls (st) μ := by
  intro p e s m args below meth c hc H locs lr hl hP hS
  exact lv_sipush hc.1 hc.2.1 hd hv (k p e s m args below meth c hc H locs lr hl hP hS)
theorem x_lconst {n : Fin 2} {v : Int64} (hv : Int64.ofNat (n : Nat) = v) (hd : decode M.2.1 pc = .ok (.lconst n, 1)) (k : Ex E M Q (pc + 1) ls (.long v :: st) μ) : Ex E M Q pc ls (st) μ := by
  intro p e s m args below meth c hc H locs lr hl hP hS
  exact lv_lconst hc.1 hc.2.1 hd hv (k p e s m args below meth c hc H locs lr hl hP hS)
theorem x_iadd {x y : Int32} (hd : decode M.2.1 pc = .ok (.iadd, 1)) (k : Ex E M Q (pc + 1) ls (.int (x + y) :: st) μ) : Ex E M Q pc ls (.int y :: .int x :: st) μ := by
  intro p e s m args below meth c hc H locs lr hl hP hS
  exact lv_iadd hc.1 hc.2.1 hd  (k p e s m args below meth c hc H locs lr hl hP hS)
theorem x_isub {x y : Int32} (hd : decode M.2.1 pc = .ok (.isub, 1)) (k : Ex E M Q (pc + 1) ls (.int (x - y) :: st) μ) : Ex E M Q pc ls (.int y :: .int x :: st) μ := by
  intro p e s m args below meth c hc H locs lr hl hP hS
  exact lv_isub hc.1 hc.2.1 hd  (k p e s m args below meth c hc H locs lr hl hP hS)
theorem x_imul {x y : Int32} (hd : decode M.2.1 pc = .ok (.imul, 1)) (k : Ex E M Q (pc + 1) ls (.int (x * y) :: st) μ) : Ex E M Q pc ls (.int y :: .int x :: st) μ := by
  intro p e s m args below meth c hc H locs lr hl hP hS
  exact lv_imul hc.1 hc.2.1 hd  (k p e s m args below meth c hc H locs lr hl hP hS)
theorem x_iand {x y : Int32} (hd : decode M.2.1 pc = .ok (.iand, 1)) (k : Ex E M Q (pc + 1) ls (.int (x &&& y) :: st) μ) : Ex E M Q pc ls (.int y :: .int x :: st) μ := by
  intro p e s m args below meth c hc H locs lr hl hP hS
  exact lv_iand hc.1 hc.2.1 hd  (k p e s m args below meth c hc H locs lr hl hP hS)
theorem x_ior {x y : Int32} (hd : decode M.2.1 pc = .ok (.ior, 1)) (k : Ex E M Q (pc + 1) ls (.int (x ||| y) :: st) μ) : Ex E M Q pc ls (.int y :: .int x :: st) μ := by
  intro p e s m args below meth c hc H locs lr hl hP hS
  exact lv_ior hc.1 hc.2.1 hd  (k p e s m args below meth c hc H locs lr hl hP hS)
theorem x_ixor {x y : Int32} (hd : decode M.2.1 pc = .ok (.ixor, 1)) (k : Ex E M Q (pc + 1) ls (.int (x ^^^ y) :: st) μ) : Ex E M Q pc ls (.int y :: .int x :: st) μ := by
  intro p e s m args below meth c hc H locs lr hl hP hS
  exact lv_ixor hc.1 hc.2.1 hd  (k p e s m args below meth c hc H locs lr hl hP hS)
theorem x_idiv {x y : Int32} (hne : ¬ y = 0) (hd : decode M.2.1 pc = .ok (.idiv, 1)) (k : Ex E M Q (pc + 1) ls (.int (x / y) :: st) μ) : Ex E M Q pc ls (.int y :: .int x :: st) μ := by
  intro p e s m args below meth c hc H locs lr hl hP hS
  exact lv_idiv hc.1 hc.2.1 hd hne (k p e s m args below meth c hc H locs lr hl hP hS)
theorem x_irem {x y : Int32} (hne : ¬ y = 0) (hd : decode M.2.1 pc = .ok (.irem, 1)) (k : Ex E M Q (pc + 1) ls (.int (x - x / y * y) :: st) μ) : Ex E M Q pc ls (.int y :: .int x :: st) μ := by
  intro p e s m args below meth c hc H locs lr hl hP hS
  exact lv_irem hc.1 hc.2.1 hd hne (k p e s m args below meth c hc H locs lr hl hP hS)
theorem x_ineg {x : Int32} (hd : decode M.2.1 pc = .ok (.ineg, 1)) (k : Ex E M Q (pc + 1) ls (.int (-x) :: st) μ) : Ex E M Q pc ls (.int x :: st) μ := by
  intro p e s m args below meth c hc H locs lr hl hP hS
  exact lv_ineg hc.1 hc.2.1 hd  (k p e s m args below meth c hc H locs lr hl hP hS)
theorem x_ladd {x y : Int64} (hd : decode M.2.1 pc = .ok (.ladd, 1)) (k : Ex E M Q (pc + 1) ls (.long (x + y) :: st) μ) : Ex E M Q pc ls (.long y :: .long x :: st) μ := by
  intro p e s m args below meth c hc H locs lr hl hP hS
  exact lv_ladd hc.1 hc.2.1 hd  (k p e s m args below meth c hc H locs lr hl hP hS)
theorem x_lsub {x y : Int64} (hd : decode M.2.1 pc = .ok (.lsub, 1)) (k : Ex E M Q (pc + 1) ls (.long (x - y) :: st) μ) : Ex E M Q pc ls (.long y :: .long x :: st) μ := by
  intro p e s m args below meth c hc H locs lr hl hP hS
  exact lv_lsub hc.1 hc.2.1 hd  (k p e s m args below meth c hc H locs lr hl hP hS)
theorem x_lmul {x y : Int64} (hd : decode M.2.1 pc = .ok (.lmul, 1)) (k : Ex E M Q (pc + 1) ls (.long (x * y) :: st) μ) : Ex E M Q pc ls (.long y :: .long x :: st) μ := by
  intro p e s m args below meth c hc H locs lr hl hP hS
  exact lv_lmul hc.1 hc.2.1 hd  (k p e s m args below meth c hc H locs lr hl hP hS)
theorem x_ishl {x y : Int32} (hd : decode M.2.1 pc = .ok (.ishl, 1)) (k : Ex E M Q (pc + 1) ls (.int (x <<< (y &&& 31)) :: st) μ) : Ex E M Q pc ls (.int y :: .int x :: st) μ := by
  intro p e s m args below meth c hc H locs lr hl hP hS
  exact lv_ishl hc.1 hc.2.1 hd  (k p e s m args below meth c hc H locs lr hl hP hS)
theorem x_ishr {x y : Int32} (hd : decode M.2.1 pc = .ok (.ishr, 1)) (k : Ex E M Q (pc + 1) ls (.int (x >>> (y &&& 31)) :: st) μ) : Ex E M Q pc ls (.int y :: .int x :: st) μ := by
  intro p e s m args below meth c hc H locs lr hl hP hS
  exact lv_ishr hc.1 hc.2.1 hd  (k p e s m args below meth c hc H locs lr hl hP hS)
theorem x_iushr {x y : Int32} (hd : decode M.2.1 pc = .ok (.iushr, 1)) (k : Ex E M Q (pc + 1) ls (.int ((x.toUInt32 >>> (y.toUInt32 &&& Int32.toUInt32 31)).toInt32) :: st) μ) : Ex E M Q pc ls (.int y :: .int x :: st) μ := by
  intro p e s m args below meth c hc H locs lr hl hP hS
  exact lv_iushr hc.1 hc.2.1 hd rfl (k p e s m args below meth c hc H locs lr hl hP hS)
theorem x_i2l {x : Int32} (hd : decode M.2.1 pc = .ok (.i2l, 1)) (k : Ex E M Q (pc + 1) ls (.long x.toInt64 :: st) μ) : Ex E M Q pc ls (.int x :: st) μ := by
  intro p e s m args below meth c hc H locs lr hl hP hS
  exact lv_i2l hc.1 hc.2.1 hd rfl (k p e s m args below meth c hc H locs lr hl hP hS)
theorem x_i2b {x : Int32} (hd : decode M.2.1 pc = .ok (.i2b, 1)) (k : Ex E M Q (pc + 1) ls (.int x.toInt8.toInt32 :: st) μ) : Ex E M Q pc ls (.int x :: st) μ := by
  intro p e s m args below meth c hc H locs lr hl hP hS
  exact lv_i2b hc.1 hc.2.1 hd rfl (k p e s m args below meth c hc H locs lr hl hP hS)
theorem x_i2s {x : Int32} (hd : decode M.2.1 pc = .ok (.i2s, 1)) (k : Ex E M Q (pc + 1) ls (.int x.toInt16.toInt32 :: st) μ) : Ex E M Q pc ls (.int x :: st) μ := by
  intro p e s m args below meth c hc H locs lr hl hP hS
  exact lv_i2s hc.1 hc.2.1 hd rfl (k p e s m args below meth c hc H locs lr hl hP hS)
theorem x_lcmp {x y : Int64} (hd : decode M.2.1 pc = .ok (.lcmp, 1)) (k : Ex E M Q (pc + 1) ls (.int (lg_cmp x y) :: st) μ) : Ex E M Q pc ls (.long y :: .long x :: st) μ := by
  intro p e s m args below meth c hc H locs lr hl hP hS
  exact W.lcmp hc.1 hc.2.1 hd  (k p e s m args below meth c hc H locs lr hl hP hS)
theorem x_dupi {x : Int32} (hd : decode M.2.1 pc = .ok (.dup, 1)) (k : Ex E M Q (pc + 1) ls (.int x :: .int x :: st) μ) : Ex E M Q pc ls (.int x :: st) μ := by
  intro p e s m args below meth c hc H locs lr hl hP hS
  exact lv_dup hc.1 hc.2.1 hd rfl (k p e s m args below meth c hc H locs lr hl hP hS)
theorem x_dupr {a : Nat} (hd : decode M.2.1 pc = .ok (.dup, 1)) (k : Ex E M Q (pc + 1) ls (.ref a :: .ref a :: st) μ) : Ex E M Q pc ls (.ref a :: st) μ := by
  intro p e s m args below meth c hc H locs lr hl hP hS
  exact lv_dup hc.1 hc.2.1 hd rfl (k p e s m args below meth c hc H locs lr hl hP hS)
theorem x_dup2ri {a : Nat} {i : Int32} (hd : decode M.2.1 pc = .ok (.dup2, 1)) (k : Ex E M Q (pc + 1) ls (.int i :: .ref a :: .int i :: .ref a :: st) μ) : Ex E M Q pc ls (.int i :: .ref a :: st) μ := by
  intro p e s m args below meth c hc H locs lr hl hP hS
  exact lv_dup2_11 hc.1 hc.2.1 hd rfl rfl (k p e s m args below meth c hc H locs lr hl hP hS)
theorem x_dup2l {x : Int64} (hd : decode M.2.1 pc = .ok (.dup2, 1)) (k : Ex E M Q (pc + 1) ls (.long x :: .long x :: st) μ) : Ex E M Q pc ls (.long x :: st) μ := by
  intro p e s m args below meth c hc H locs lr hl hP hS
  exact lv_dup2_2 hc.1 hc.2.1 hd rfl (k p e s m args below meth c hc H locs lr hl hP hS)
theorem x_popi {x : Int32} (hd : decode M.2.1 pc = .ok (.pop, 1)) (k : Ex E M Q (pc + 1) ls (st) μ) : Ex E M Q pc ls (.int x :: st) μ := by
  intro p e s m args below meth c hc H locs lr hl hP hS
  exact lv_pop hc.1 hc.2.1 hd rfl (k p e s m args below meth c hc H locs lr hl hP hS)
theorem x_iload_n {k : Fin 4} {i : Nat} {x : Int32} (q : Nat) (hq : ls[q]? = some (i, .int x)) (hi : (k : Nat) = i) (hd : decode M.2.1 pc = .ok (.iload_n k, 1)) (h : Ex E M Q (pc + 1) ls (.int x :: st) μ) : Ex E M Q pc ls st μ := by
  intro p e s m args below meth c hc H locs lr hl hP hS
  exact lv_iload_n hc.1 hc.2.1 hd hi (lv_at hl q (by rw [List.getElem?_map, hq]; rfl)) (h p e s m args below meth c hc H locs lr hl hP hS)
theorem x_lload_n {k : Fin 4} {i : Nat} {x : Int64} (q : Nat) (hq : ls[q]? = some (i, .long x)) (hi : (k : Nat) = i) (hd : decode M.2.1 pc = .ok (.lload_n k, 1)) (h : Ex E M Q (pc + 1) ls (.long x :: st) μ) : Ex E M Q pc ls st μ := by
  intro p e s m args below meth c hc H locs lr hl hP hS
  exact lv_lload_n hc.1 hc.2.1 hd hi (lv_at hl q (by rw [List.getElem?_map, hq]; rfl)) (h p e s m args below meth c hc H locs lr hl hP hS)
theorem x_aload_n {k : Fin 4} {i : Nat} {x : Nat} (q : Nat) (hq : ls[q]? = some (i, .ref x)) (hi : (k : Nat) = i) (hd : decode M.2.1 pc = .ok (.aload_n k, 1)) (h : Ex E M Q (pc + 1) ls (.ref x :: st) μ) : Ex E M Q pc ls st μ := by
  intro p e s m args below meth c hc H locs lr hl hP hS
  exact lv_aload_n hc.1 hc.2.1 hd hi (lv_at hl q (by rw [List.getElem?_map, hq]; rfl)) (h p e s m args below meth c hc H locs lr hl hP hS)
theorem x_iload {i : Nat} {x : Int32} (q : Nat) (hq : ls[q]? = some (i, .int x)) (hd : decode M.2.1 pc = .ok (.iload i, 2)) (h : Ex E M Q (pc + 2) ls (.int x :: st) μ) : Ex E M Q pc ls st μ := by
  intro p e s m args below meth c hc H locs lr hl hP hS
  exact lv_iload hc.1 hc.2.1 hd (lv_at hl q (by rw [List.getElem?_map, hq]; rfl)) (h p e s m args below meth c hc H locs lr hl hP hS)
theorem x_lload {i : Nat} {x : Int64} (q : Nat) (hq : ls[q]? = some (i, .long x)) (hd : decode M.2.1 pc = .ok (.lload i, 2)) (h : Ex E M Q (pc + 2) ls (.long x :: st) μ) : Ex E M Q pc ls st μ := by
  intro p e s m args below meth c hc H locs lr hl hP hS
  exact lv_lload hc.1 hc.2.1 hd (lv_at hl q (by rw [List.getElem?_map, hq]; rfl)) (h p e s m args below meth c hc H locs lr hl hP hS)
theorem x_aload {i : Nat} {x : Nat} (q : Nat) (hq : ls[q]? = some (i, .ref x)) (hd : decode M.2.1 pc = .ok (.aload i, 2)) (h : Ex E M Q (pc + 2) ls (.ref x :: st) μ) : Ex E M Q pc ls st μ := by
  intro p e s m args below meth c hc H locs lr hl hP hS
  exact lv_aload hc.1 hc.2.1 hd (lv_at hl q (by rw [List.getElem?_map, hq]; rfl)) (h p e s m args below meth c hc H locs lr hl hP hS)
theorem xl_sub {sz nL : Nat} {lr : Array Slot} {l l' : List (Nat × Value)} (h : lv_has lr nL (l.map (shl sz))) (ks : List Nat) (hk : lv_pick l ks = l') : lv_has lr nL (l'.map (shl sz)) := by
  refine lv_sub h ks ?_
  subst hk
  unfold lv_pick
  induction ks with
  | nil => rfl
  | cons a t ih =>
    rw [List.filterMap_cons, List.filterMap_cons, List.getElem?_map]
    cases hq : l[a]? with
    | none => exact ih
    | some z =>
      show shl sz z :: _ = shl sz z :: _
      rw [ih]
theorem x_sub {l' : List (Nat × Value)} (ks : List Nat) (hk : lv_pick ls ks = l') (h : Ex E M Q pc l' st μ) : Ex E M Q pc ls st μ := by
  intro p e s m args below meth c hc H locs lr hl hP hS
  exact h p e s m args below meth c hc H locs lr (xl_sub hl ks hk) hP hS
/-- the locals behind a store -/
def st1 (i : Nat) (v : Value) (l : List (Nat × Value)) : List (Nat × Value) := (i, v) :: l.filter (fun q => !(q.1 == i) && !(q.1 + 1 == i && q.2.category == 2))
def st2 (i : Nat) (v : Value) (l : List (Nat × Value)) : List (Nat × Value) := (i, v) :: l.filter (fun q => !(q.1 == i) && (!(q.1 == i + 1) && !(q.1 + 1 == i && q.2.category == 2)))
theorem st1_sh (sz i : Nat) (v : Value) (l : List (Nat × Value)) : (i, sh sz v) :: (l.map (shl sz)).filter (fun q => !(q.1 == i) && !(q.1 + 1 == i && q.2.category == 2)) = (st1 i v l).map (shl sz) := by
  unfold st1
  rw [List.map_cons, List.filter_map]
  have e : ((fun q : Nat × Value => !(q.1 == i) && !(q.1 + 1 == i && q.2.category == 2)) ∘ shl sz) = (fun q : Nat × Value => !(q.1 == i) && !(q.1 + 1 == i && q.2.category == 2)) := by
    funext q
    simp [shl, sh_cat]
  rw [e]
  rfl
theorem st2_sh (sz i : Nat) (v : Value) (l : List (Nat × Value)) : (i, sh sz v) :: (l.map (shl sz)).filter (fun q => !(q.1 == i) && (!(q.1 == i + 1) && !(q.1 + 1 == i && q.2.category == 2))) = (st2 i v l).map (shl sz) := by
  unfold st2
  rw [List.map_cons, List.filter_map]
  have e : ((fun q : Nat × Value => !(q.1 == i) && (!(q.1 == i + 1) && !(q.1 + 1 == i && q.2.category == 2))) ∘ shl sz) = (fun q : Nat × Value => !(q.1 == i) && (!(q.1 == i + 1) && !(q.1 + 1 == i && q.2.category == 2))) := by
    funext q
    simp [shl, sh_cat]
  rw [e]
  rfl
theorem x_istore_n {k : Fin 4} {i : Nat} {x : Int32} {l' : List (Nat × Value)} (ks : List Nat) (hk : lv_pick (st1 i (.int x) ls) ks = l') (hi : (k : Nat) = i) (hn : i < M.2.2.1) (hd : decode M.2.1 pc = .ok (.istore_n k, 1)) (h : Ex E M Q (pc + 1) l' st μ) : Ex E M Q pc ls (.int x :: st) μ := by
  intro p e s m args below meth c hc H locs lr hl hP hS
  exact lv_istore_n hc.1 hc.2.1 hd hi hl hn (st1_sh _ i (.int x) ls) (fun lr hl => h p e s m args below meth c hc H locs lr (xl_sub hl ks hk) hP hS)
theorem x_lstore_n {k : Fin 4} {i : Nat} {x : Int64} {l' : List (Nat × Value)} (ks : List Nat) (hk : lv_pick (st2 i (.long x) ls) ks = l') (hi : (k : Nat) = i) (hn : i + 1 < M.2.2.1) (hd : decode M.2.1 pc = .ok (.lstore_n k, 1)) (h : Ex E M Q (pc + 1) l' st μ) : Ex E M Q pc ls (.long x :: st) μ := by
  intro p e s m args below meth c hc H locs lr hl hP hS
  exact lv_lstore_n hc.1 hc.2.1 hd hi hl hn (st2_sh _ i (.long x) ls) (fun lr hl => h p e s m args below meth c hc H locs lr (xl_sub hl ks hk) hP hS)
theorem x_astore_n {k : Fin 4} {i : Nat} {x : Nat} {l' : List (Nat × Value)} (ks : List Nat) (hk : lv_pick (st1 i (.ref x) ls) ks = l') (hi : (k : Nat) = i) (hn : i < M.2.2.1) (hd : decode M.2.1 pc = .ok (.astore_n k, 1)) (h : Ex E M Q (pc + 1) l' st μ) : Ex E M Q pc ls (.ref x :: st) μ := by
  intro p e s m args below meth c hc H locs lr hl hP hS
  exact lv_astore_n hc.1 hc.2.1 hd hi hl hn (st1_sh _ i (.ref x) ls) (fun lr hl => h p e s m args below meth c hc H locs lr (xl_sub hl ks hk) hP hS)
theorem x_istore {k : Fin 4} {i : Nat} {x : Int32} {l' : List (Nat × Value)} (ks : List Nat) (hk : lv_pick (st1 i (.int x) ls) ks = l') (hi : (k : Nat) = i) (hn : i < M.2.2.1) (hd : decode M.2.1 pc = .ok (.istore i, 2)) (h : Ex E M Q (pc + 2) l' st μ) : Ex E M Q pc ls (.int x :: st) μ := by
  intro p e s m args below meth c hc H locs lr hl hP hS
  exact lv_istore hc.1 hc.2.1 hd hl hn (st1_sh _ i (.int x) ls) (fun lr hl => h p e s m args below meth c hc H locs lr (xl_sub hl ks hk) hP hS)
theorem x_lstore {k : Fin 4} {i : Nat} {x : Int64} {l' : List (Nat × Value)} (ks : List Nat) (hk : lv_pick (st2 i (.long x) ls) ks = l') (hi : (k : Nat) = i) (hn : i + 1 < M.2.2.1) (hd : decode M.2.1 pc = .ok (.lstore i, 2)) (h : Ex E M Q (pc + 2) l' st μ) : Ex E M Q pc ls (.long x :: st) μ := by
  intro p e s m args below meth c hc H locs lr hl hP hS
  exact lv_lstore hc.1 hc.2.1 hd hl hn (st2_sh _ i (.long x) ls) (fun lr hl => h p e s m args below meth c hc H locs lr (xl_sub hl ks hk) hP hS)
theorem x_astore {k : Fin 4} {i : Nat} {x : Nat} {l' : List (Nat × Value)} (ks : List Nat) (hk : lv_pick (st1 i (.ref x) ls) ks = l') (hi : (k : Nat) = i) (hn : i < M.2.2.1) (hd : decode M.2.1 pc = .ok (.astore i, 2)) (h : Ex E M Q (pc + 2) l' st μ) : Ex E M Q pc ls (.ref x :: st) μ := by
  intro p e s m args below meth c hc H locs lr hl hP hS
  exact lv_astore hc.1 hc.2.1 hd hl hn (st1_sh _ i (.ref x) ls) (fun lr hl => h p e s m args below meth c hc H locs lr (xl_sub hl ks hk) hP hS)
theorem x_iinc {i : Nat} {n : Int} {x v : Int32} {l' : List (Nat × Value)} (q : Nat) (hq : ls[q]? = some (i, .int x)) (hv : x + Int32.ofInt n = v) (ks : List Nat) (hk : lv_pick (st1 i (.int v) ls) ks = l') (hn : i < M.2.2.1) (hd : decode M.2.1 pc = .ok (.iinc i n, 3)) (h : Ex E M Q (pc + 3) l' st μ) : Ex E M Q pc ls st μ := by
  intro p e s m args below meth c hc H locs lr hl hP hS
  exact lv_iinc (k := q) hc.1 hc.2.1 hd hl (by rw [List.getElem?_map, hq]; rfl) hv hn (st1_sh _ i (.int v) ls) (fun lr hl => h p e s m args below meth c hc H locs lr (xl_sub hl ks hk) hP hS)
theorem x_topi {x : Int32} (h : ∀ y : Int32, y = x → Ex E M Q pc ls (.int y :: st) μ) : Ex E M Q pc ls (.int x :: st) μ := h x rfl
theorem x_topl {x : Int64} (h : ∀ y : Int64, y = x → Ex E M Q pc ls (.long y :: st) μ) : Ex E M Q pc ls (.long x :: st) μ := h x rfl
theorem x_goto {off : Int} {tgt : Nat} (ht : (pc : Int) + off = (tgt : Int)) (hd : decode M.2.1 pc = .ok (.goto off, 3)) (h : Ex E M Q tgt ls st μ) : Ex E M Q pc ls st μ := by
  intro p e s m args below meth c hc H locs lr hl hP hS
  exact lv_goto hc.1 hc.2.1 hd ht (h p e s m args below meth c hc H locs lr hl hP hS)
theorem x_if_eq {x : Int32} {off : Int} {tgt : Nat} (ht : (pc : Int) + off = (tgt : Int)) (hd : decode M.2.1 pc = .ok (.ifCond .eq off, 3)) (kt : x = 0 → Ex E M Q tgt ls st μ) (kf : ¬ x = 0 → Ex E M Q (pc + 3) ls st μ) : Ex E M Q pc ls (.int x :: st) μ := by
  intro p e s m args below meth c hc H locs lr hl hP hS
  exact lv_if_eq hc.1 hc.2.1 hd ht (fun z => kt z p e s m args below meth c hc H locs lr hl hP hS) (fun z => kf z p e s m args below meth c hc H locs lr hl hP hS)
theorem x_icmp_eq {x y : Int32} {off : Int} {tgt : Nat} (ht : (pc : Int) + off = (tgt : Int)) (hd : decode M.2.1 pc = .ok (.if_icmp .eq off, 3)) (kt : x = y → Ex E M Q tgt ls st μ) (kf : ¬ x = y → Ex E M Q (pc + 3) ls st μ) : Ex E M Q pc ls (.int y :: .int x :: st) μ := by
  intro p e s m args below meth c hc H locs lr hl hP hS
  exact lv_icmp_eq hc.1 hc.2.1 hd ht (fun z => kt z p e s m args below meth c hc H locs lr hl hP hS) (fun z => kf z p e s m args below meth c hc H locs lr hl hP hS)
theorem x_if_ne {x : Int32} {off : Int} {tgt : Nat} (ht : (pc : Int) + off = (tgt : Int)) (hd : decode M.2.1 pc = .ok (.ifCond .ne off, 3)) (kt : ¬ x = 0 → Ex E M Q tgt ls st μ) (kf : x = 0 → Ex E M Q (pc + 3) ls st μ) : Ex E M Q pc ls (.int x :: st) μ := by
  intro p e s m args below meth c hc H locs lr hl hP hS
  exact lv_if_ne hc.1 hc.2.1 hd ht (fun z => kt z p e s m args below meth c hc H locs lr hl hP hS) (fun z => kf z p e s m args below meth c hc H locs lr hl hP hS)
theorem x_icmp_ne {x y : Int32} {off : Int} {tgt : Nat} (ht : (pc : Int) + off = (tgt : Int)) (hd : decode M.2.1 pc = .ok (.if_icmp .ne off, 3)) (kt : ¬ x = y → Ex E M Q tgt ls st μ) (kf : x = y → Ex E M Q (pc + 3) ls st μ) : Ex E M Q pc ls (.int y :: .int x :: st) μ := by
  intro p e s m args below meth c hc H locs lr hl hP hS
  exact lv_icmp_ne hc.1 hc.2.1 hd ht (fun z => kt z p e s m args below meth c hc H locs lr hl hP hS) (fun z => kf z p e s m args below meth c hc H locs lr hl hP hS)
theorem x_if_lt {x : Int32} {off : Int} {tgt : Nat} (ht : (pc : Int) + off = (tgt : Int)) (hd : decode M.2.1 pc = .ok (.ifCond .lt off, 3)) (kt : x < 0 → Ex E M Q tgt ls st μ) (kf : ¬ x < 0 → Ex E M Q (pc + 3) ls st μ) : Ex E M Q pc ls (.int x :: st) μ := by
  intro p e s m args below meth c hc H locs lr hl hP hS
  exact lv_if_lt hc.1 hc.2.1 hd ht (fun z => kt z p e s m args below meth c hc H locs lr hl hP hS) (fun z => kf z p e s m args below meth c hc H locs lr hl hP hS)
theorem x_icmp_lt {x y : Int32} {off : Int} {tgt : Nat} (ht : (pc : Int) + off = (tgt : Int)) (hd : decode M.2.1 pc = .ok (.if_icmp .lt off, 3)) (kt : x < y → Ex E M Q tgt ls st μ) (kf : ¬ x < y → Ex E M Q (pc + 3) ls st μ) : Ex E M Q pc ls (.int y :: .int x :: st) μ := by
  intro p e s m args below meth c hc H locs lr hl hP hS
  exact lv_icmp_lt hc.1 hc.2.1 hd ht (fun z => kt z p e s m args below meth c hc H locs lr hl hP hS) (fun z => kf z p e s m args below meth c hc H locs lr hl hP hS)
theorem x_if_ge {x : Int32} {off : Int} {tgt : Nat} (ht : (pc : Int) + off = (tgt : Int)) (hd : decode M.2.1 pc = .ok (.ifCond .ge off, 3)) (kt : 0 ≤ x → Ex E M Q tgt ls st μ) (kf : ¬ 0 ≤ x → Ex E M Q (pc + 3) ls st μ) : Ex E M Q pc ls (.int x :: st) μ := by
  intro p e s m args below meth c hc H locs lr hl hP hS
  exact lv_if_ge hc.1 hc.2.1 hd ht (fun z => kt z p e s m args below meth c hc H locs lr hl hP hS) (fun z => kf z p e s m args below meth c hc H locs lr hl hP hS)
theorem x_icmp_ge {x y : Int32} {off : Int} {tgt : Nat} (ht : (pc : Int) + off = (tgt : Int)) (hd : decode M.2.1 pc = .ok (.if_icmp .ge off, 3)) (kt : y ≤ x → Ex E M Q tgt ls st μ) (kf : ¬ y ≤ x → Ex E M Q (pc + 3) ls st μ) : Ex E M Q pc ls (.int y :: .int x :: st) μ := by
  intro p e s m args below meth c hc H locs lr hl hP hS
  exact lv_icmp_ge hc.1 hc.2.1 hd ht (fun z => kt z p e s m args below meth c hc H locs lr hl hP hS) (fun z => kf z p e s m args below meth c hc H locs lr hl hP hS)
theorem x_if_gt {x : Int32} {off : Int} {tgt : Nat} (ht : (pc : Int) + off = (tgt : Int)) (hd : decode M.2.1 pc = .ok (.ifCond .gt off, 3)) (kt : 0 < x → Ex E M Q tgt ls st μ) (kf : ¬ 0 < x → Ex E M Q (pc + 3) ls st μ) : Ex E M Q pc ls (.int x :: st) μ := by
  intro p e s m args below meth c hc H locs lr hl hP hS
  exact lv_if_gt hc.1 hc.2.1 hd ht (fun z => kt z p e s m args below meth c hc H locs lr hl hP hS) (fun z => kf z p e s m args below meth c hc H locs lr hl hP hS)
theorem x_icmp_gt {x y : Int32} {off : Int} {tgt : Nat} (ht : (pc : Int) + off = (tgt : Int)) (hd : decode M.2.1 pc = .ok (.if_icmp .gt off, 3)) (kt : y < x → Ex E M Q tgt ls st μ) (kf : ¬ y < x → Ex E M Q (pc + 3) ls st μ) : Ex E M Q pc ls (.int y :: .int x :: st) μ := by
  intro p e s m args below meth c hc H locs lr hl hP hS
  exact lv_icmp_gt hc.1 hc.2.1 hd ht (fun z => kt z p e s m args below meth c hc H locs lr hl hP hS) (fun z => kf z p e s m args below meth c hc H locs lr hl hP hS)
theorem x_if_le {x : Int32} {off : Int} {tgt : Nat} (ht : (pc : Int) + off = (tgt : Int)) (hd : decode M.2.1 pc = .ok (.ifCond .le off, 3)) (kt : x ≤ 0 → Ex E M Q tgt ls st μ) (kf : ¬ x ≤ 0 → Ex E M Q (pc + 3) ls st μ) : Ex E M Q pc ls (.int x :: st) μ := by
  intro p e s m args below meth c hc H locs lr hl hP hS
  exact lv_if_le hc.1 hc.2.1 hd ht (fun z => kt z p e s m args below meth c hc H locs lr hl hP hS) (fun z => kf z p e s m args below meth c hc H locs lr hl hP hS)
theorem x_icmp_le {x y : Int32} {off : Int} {tgt : Nat} (ht : (pc : Int) + off = (tgt : Int)) (hd : decode M.2.1 pc = .ok (.if_icmp .le off, 3)) (kt : x ≤ y → Ex E M Q tgt ls st μ) (kf : ¬ x ≤ y → Ex E M Q (pc + 3) ls st μ) : Ex E M Q pc ls (.int y :: .int x :: st) μ := by
  intro p e s m args below meth c hc H locs lr hl hP hS
  exact lv_icmp_le hc.1 hc.2.1 hd ht (fun z => kt z p e s m args below meth c hc H locs lr hl hP hS) (fun z => kf z p e s m args below meth c hc H locs lr hl hP hS)
theorem x_ldcw {own : String} {index : Nat} {v : Int32} (ho : M.1.cls = own) (hw : Cond.constant own index v ∈ tbG) (hd : decode M.2.1 pc = .ok (.ldc_w index, 3)) (h : Ex E M Q (pc + 3) ls (.int v :: st) μ) : Ex E M Q pc ls st μ := by
  intro p e s m args below meth c hc H locs lr hl hP hS
  subst ho
  exact lv_ldcw hc.1 hc.2.1 hc.2.2.2.2.1 (hc.2.2.2.2.2.1 _ hw) hd (h p e s m args below meth c hc H locs lr hl hP hS)
theorem x_ldc {own : String} {index : Nat} {v : Int32} (ho : M.1.cls = own) (hw : Cond.constant own index v ∈ tbG) (hd : decode M.2.1 pc = .ok (.ldc index, 2)) (h : Ex E M Q (pc + 2) ls (.int v :: st) μ) : Ex E M Q pc ls st μ := by
  intro p e s m args below meth c hc H locs lr hl hP hS
  subst ho
  exact lv_ldc hc.1 hc.2.1 hc.2.2.2.2.1 (hc.2.2.2.2.2.1 _ hw) hd (h p e s m args below meth c hc H locs lr hl hP hS)
theorem x_ldc2 {own : String} {index : Nat} {v : Int64} (ho : M.1.cls = own) (hw : Cond.constantLong own index v ∈ tbG) (hd : decode M.2.1 pc = .ok (.ldc2_w index, 3)) (h : Ex E M Q (pc + 3) ls (.long v :: st) μ) : Ex E M Q pc ls st μ := by
  intro p e s m args below meth c hc H locs lr hl hP hS
  subst ho
  exact lv_ldc2 hc.1 hc.2.1 hc.2.2.2.2.1 (hc.2.2.2.2.2.1 _ hw) hd (h p e s m args below meth c hc H locs lr hl hP hS)
theorem x_tabIn {dflt lo hi : Int} {offs : Array Int} {len : Nat} {x : Int32} {off : Int} {tgt : Nat} (h1 : ¬ x.toInt < lo) (h2 : ¬ hi < x.toInt) (ho : offs[(x.toInt - lo).toNat]? = some off) (ht : (pc : Int) + off = (tgt : Int)) (hd : decode M.2.1 pc = .ok (.tableswitch dflt lo hi offs, len)) (h : Ex E M Q tgt ls st μ) : Ex E M Q pc ls (.int x :: st) μ := by
  intro p e s m args below meth c hc H locs lr hl hP hS
  exact lv_tableIn hc.1 hc.2.1 hd h1 h2 ho ht (h p e s m args below meth c hc H locs lr hl hP hS)
theorem x_tabOut {dflt lo hi : Int} {offs : Array Int} {len : Nat} {x : Int32} {tgt : Nat} (h1 : x.toInt < lo ∨ hi < x.toInt) (ht : (pc : Int) + dflt = (tgt : Int)) (hd : decode M.2.1 pc = .ok (.tableswitch dflt lo hi offs, len)) (h : Ex E M Q tgt ls st μ) : Ex E M Q pc ls (.int x :: st) μ := by
  intro p e s m args below meth c hc H locs lr hl hP hS
  exact lv_tableOut hc.1 hc.2.1 hd h1 ht (h p e s m args below meth c hc H locs lr hl hP hS)
-- arrays
theorem ce_int {a : Nat} (h : kd a = 20) : ce E μ a = .inl (E.2.2.1 20, ln a, .inl (μ.1 a)) := by simp [ce, h]
theorem ce_bool {a : Nat} (h : kd a = 22) : ce E μ a = .inl (E.2.2.1 22, ln a, .inl (μ.1 a)) := by simp [ce, h]
theorem ce_long {a : Nat} (h : kd a = 21) : ce E μ a = .inl (E.2.2.1 21, ln a, .inr (.inl (μ.2 a))) := by simp [ce, h]
theorem ce_ref {a k : Nat} (h : kd a = k) (h1 : 23 ≤ k) : ce E μ a = .inl (E.2.2.1 k, ln a, .inr (.inr (.inr (.inr (fun j => some (E.2.2.2 + rf a j)))))) := by
  subst h
  unfold ce
  rw [if_neg (by omega), if_neg (by omega), if_neg (by omega)]
theorem upd_mI {o k : Nat} {x : Int32} : upd (μ.1 o) k x = (mI μ o k x).1 o := by
  funext b
  simp [upd, mI]
theorem upd_mJ {o k : Nat} {x : Int64} : vp_updL (μ.2 o) k x = (mJ μ o k x).2 o := by
  funext b
  simp [vp_updL, mJ]
theorem x_iald {a : Nat} {i : Int32} (ha : kd a = 20) (hi : vp_in i (ln a)) (hd : decode M.2.1 pc = .ok (.iaload, 1)) (h : Ex E M Q (pc + 1) ls (.int (μ.1 a i.toNatClampNeg) :: st) μ) : Ex E M Q pc ls (.int i :: .ref a :: st) μ := by
  intro p e s m args below meth c hc H locs lr hl hP hS
  exact va_iald hc.1 hc.2.1 hc.2.2.2.2.2.2.2.1 hP a 0 (by rw [wd_get (kd_lt20 (by omega)), ce_int ha]) rfl hi hd (h p e s m args below meth c hc H locs lr hl hP hS)
theorem x_zald {a : Nat} {i : Int32} (ha : kd a = 22) (hi : vp_in i (ln a)) (hd : decode M.2.1 pc = .ok (.baload, 1)) (h : Ex E M Q (pc + 1) ls (.int (μ.1 a i.toNatClampNeg) :: st) μ) : Ex E M Q pc ls (.int i :: .ref a :: st) μ := by
  intro p e s m args below meth c hc H locs lr hl hP hS
  exact va_zald hc.1 hc.2.1 hc.2.2.2.2.2.2.2.1 hP a 2 (by rw [wd_get (kd_lt20 (by omega)), ce_bool ha]) rfl hi hd (h p e s m args below meth c hc H locs lr hl hP hS)
theorem x_lald {a : Nat} {i : Int32} (ha : kd a = 21) (hi : vp_in i (ln a)) (hd : decode M.2.1 pc = .ok (.laload, 1)) (h : Ex E M Q (pc + 1) ls (.long (μ.2 a i.toNatClampNeg) :: st) μ) : Ex E M Q pc ls (.int i :: .ref a :: st) μ := by
  intro p e s m args below meth c hc H locs lr hl hP hS
  exact va_lald hc.1 hc.2.1 hc.2.2.2.2.2.2.2.1 hP a 1 (by rw [wd_get (kd_lt20 (by omega)), ce_long ha]) rfl hi hd (h p e s m args below meth c hc H locs lr hl hP hS)
theorem x_aald {a t : Nat} {ty : FieldType} {i : Int32} {b : Nat} (ha : kd a = 23 + t) (ht : (tys E)[3 + t]? = some (E.2.2.1 (23 + t), ty)) (hty : ty.isReference = true) (hi : vp_in i (ln a)) (hb : rf a i.toNatClampNeg = b) (hd : decode M.2.1 pc = .ok (.aaload, 1)) (h : Ex E M Q (pc + 1) ls (.ref b :: st) μ) : Ex E M Q pc ls (.int i :: .ref a :: st) μ := by
  intro p e s m args below meth c hc H locs lr hl hP hS
  subst hb
  have hlt : i.toNatClampNeg < ln a := Nat.not_le.mp fun q => hi (Or.inr q)
  have hn : a < NC := kd_lt (fun q => by
    rw [ha] at q
    have q1 : t = 76 := by omega
    subst q1
    cases ht)
  have hcell := hP a _ (by rw [wd_get hn, ce_ref ha (by omega)])
  exact W.aald (v := .ref (E.2.2.2 + rf a i.toNatClampNeg)) (ty := ty) hc.1 hc.2.1 hcell ((hc.2.2.2.2.2.2.2.1.2 (3 + t) _ ht).1 (ln a) (fun j => va_rf (some (E.2.2.2 + rf a j)))) hty (fun q => by cases q) (by show ¬ (i < 0 ∨ (arrV _ _ _).slots.size ≤ _); rw [arrV_size]; exact hi) (by show (arrV _ _ _).slots[_]? = _; rw [arrV_read _ _ hlt]; rfl) rfl rfl hd (h p e s m args below meth c hc H locs lr hl hP hS)
theorem x_iast {a : Nat} {i x : Int32} (ha : kd a = 20) (hi : vp_in i (ln a)) (hd : decode M.2.1 pc = .ok (.iastore, 1)) (h : Ex E M Q (pc + 1) ls st (mI μ a i.toNatClampNeg x)) : Ex E M Q pc ls (.int x :: .int i :: .ref a :: st) μ := by
  intro p e s m args below meth c hc H locs lr hl hP hS
  have hn : a < NC := kd_lt20 (by omega)
  refine va_iast hc.1 hc.2.1 hc.2.2.2.2.2.2.2.1 hP (wd_D E μ) hS a 0 (by rw [wd_get hn, ce_int ha]) rfl hi hd (fun H1 l1 hP1 hD1 hS1 => ?_)
  rw [wd_set (ν := mI μ a i.toNatClampNeg x) hn (by rw [ce_int ha, upd_mI]) (fun _ q => ce_mI q)] at hP1
  exact h p e s m args below meth c hc H1 l1 lr hl hP1 hS1
theorem x_zast {a : Nat} {i x y : Int32} (ha : kd a = 22) (hi : vp_in i (ln a)) (hy : vp_nar .boolean x = y) (hd : decode M.2.1 pc = .ok (.bastore, 1)) (h : Ex E M Q (pc + 1) ls st (mI μ a i.toNatClampNeg y)) : Ex E M Q pc ls (.int x :: .int i :: .ref a :: st) μ := by
  intro p e s m args below meth c hc H locs lr hl hP hS
  have hn : a < NC := kd_lt20 (by omega)
  subst hy
  refine va_zast hc.1 hc.2.1 hc.2.2.2.2.2.2.2.1 hP (wd_D E μ) hS a 2 (by rw [wd_get hn, ce_bool ha]) rfl hi hd (fun H1 l1 hP1 hD1 hS1 => ?_)
  rw [wd_set (ν := mI μ a i.toNatClampNeg (vp_nar .boolean x)) hn (by rw [ce_bool ha, upd_mI]) (fun _ q => ce_mI q)] at hP1
  exact h p e s m args below meth c hc H1 l1 lr hl hP1 hS1
theorem x_last {a : Nat} {i : Int32} {x : Int64} (ha : kd a = 21) (hi : vp_in i (ln a)) (hd : decode M.2.1 pc = .ok (.lastore, 1)) (h : Ex E M Q (pc + 1) ls st (mJ μ a i.toNatClampNeg x)) : Ex E M Q pc ls (.long x :: .int i :: .ref a :: st) μ := by
  intro p e s m args below meth c hc H locs lr hl hP hS
  have hn : a < NC := kd_lt20 (by omega)
  refine va_last hc.1 hc.2.1 hc.2.2.2.2.2.2.2.1 hP (wd_D E μ) hS a 1 (by rw [wd_get hn, ce_long ha]) rfl hi hd (fun H1 l1 hP1 hD1 hS1 => ?_)
  rw [wd_set (ν := mJ μ a i.toNatClampNeg x) hn (by rw [ce_long ha, upd_mJ]) (fun _ q => ce_mJ q)] at hP1
  exact h p e s m args below meth c hc H1 l1 lr hl hP1 hS1
theorem x_alen {a N : Nat} {v : Int32} (ha : kd a = 20 ∨ kd a = 21) (hN : ln a = N) (hv : Int32.ofNat N = v) (hd : decode M.2.1 pc = .ok (.arraylength, 1)) (h : Ex E M Q (pc + 1) ls (.int v :: st) μ) : Ex E M Q pc ls (.ref a :: st) μ := by
  intro p e s m args below meth c hc H locs lr hl hP hS
  subst hN
  rcases ha with ha | ha
  · exact va_alen hc.1 hc.2.1 hc.2.2.2.2.2.2.2.1 hP a 0 (by rw [wd_get (kd_lt20 (by omega)), ce_int ha]) rfl hv hd (h p e s m args below meth c hc H locs lr hl hP hS)
  · exact va_alen hc.1 hc.2.1 hc.2.2.2.2.2.2.2.1 hP a 1 (by rw [wd_get (kd_lt20 (by omega)), ce_long ha]) rfl hv hd (h p e s m args below meth c hc H locs lr hl hP hS)
-- fields
theorem ce_obj {o ci : Nat} (h : kd o = ci) (h1 : ci < 20) : ce E μ o = .inr (ci, (List.range (ln o)).map (fun k => sh E.2.2.2 (fp μ o k))) := by
  subst h
  unfold ce
  rw [if_pos h1]
theorem x_get {o ci k N index : Nat} {C : String} {T : u_T} {v : Value} (ho : kd o = ci) (h1 : ci < 20) (hc0 : classes[ci]? = some (C, T, N)) (hin : ∀ w ∈ u_ws C T N, w ∈ tbG) (hk : k < N) (hkl : k < ln o) (hlink : Cond.fieldLink M.1.cls index (T k).1 (T k).2.1 (T k).2.2.1 ∈ tbG) (hv : fp μ o k = v) (hd : decode M.2.1 pc = .ok (.getfield index, 3)) (h : Ex E M Q (pc + 3) ls (v :: st) μ) : Ex E M Q pc ls (.ref o :: st) μ := by
  intro p e s m args below meth c hc H locs lr hl hP hS
  subst hv
  exact va_get hc.1 hc.2.1 hc.2.2.2.2.2.1 hin hc.2.2.2.2.1 hc.2.2.2.2.2.2.2.1 hP o (by rw [wd_get (kd_lt20 (by omega)), ce_obj ho h1]) hc0 k hk (hc.2.2.2.2.2.1 _ hlink) (fun _ h9 => h9) (by rw [List.getElem?_map, List.getElem?_range hkl]; rfl) hd (h p e s m args below meth c hc H locs lr hl hP hS)
theorem fp_mI {o k : Nat} {x : Int32} (h : ft (kd o) k ≠ 1 ∧ ft (kd o) k ≠ 2) (j : Nat) : fp (mI μ o k x) o j = if j = k then .int x else fp μ o j := by
  unfold fp
  by_cases e : j = k
  · subst e
    rw [if_neg h.1, if_neg h.2, if_pos rfl]
    simp [mI]
  · rw [if_neg e]
    simp [mI, e]
theorem fp_mJ {o k : Nat} {x : Int64} (h : ft (kd o) k = 2) (j : Nat) : fp (mJ μ o k x) o j = if j = k then .long x else fp μ o j := by
  unfold fp
  by_cases e : j = k
  · subst e
    rw [if_neg (by omega), if_pos h, if_pos rfl]
    simp [mJ]
  · rw [if_neg e]
    simp [mJ, e]
theorem set_range {n k : Nat} {f g : Nat → Value} {v : Value} (hk : k < n) (h : ∀ j, g j = if j = k then v else f j) : ((List.range n).map f).set k v = (List.range n).map g := by
  apply List.ext_getElem?
  intro i
  rw [List.getElem?_set]
  by_cases e : k = i
  · subst e
    rw [if_pos rfl, if_pos (by simpa using hk), List.getElem?_map, List.getElem?_range hk]
    show some v = some (g k)
    rw [h, if_pos rfl]
  · rw [if_neg e, List.getElem?_map, List.getElem?_map]
    by_cases l : i < n
    · rw [List.getElem?_range l]
      show some (f i) = some (g i)
      rw [h, if_neg (fun q => e q.symm)]
    · rw [List.getElem?_eq_none (by simpa using l)]
      rfl
theorem x_putI {o ci k N index : Nat} {C : String} {T : u_T} {ty : FieldType} {x : Int32} (ty0 : Nat → FieldType) (hty : ∀ k, k < N → parseFieldDescriptor (T k).2.2.1 = some (ty0 k)) (hnm : ∀ a, a < N → ∀ b, b < N → a ≠ b → (T a).2.1 ≠ (T b).2.1) (ho : kd o = ci) (h1 : ci < 20) (hc0 : classes[ci]? = some (C, T, N)) (hin : ∀ w ∈ u_ws C T N, w ∈ tbG) (hk : k < N) (hkl : k < ln o) (hlink : Cond.fieldLink M.1.cls index (T k).1 (T k).2.1 (T k).2.2.1 ∈ tbG) (hfin : (T k).2.2.2 = false) (hf : ft ci k ≠ 1 ∧ ft ci k ≠ 2) (hpd : parseFieldDescriptor (T k).2.2.1 = some ty) (hn : narrow ty (.int x) = .int x) (hfit : fits ty (.int x) = true) (hd : decode M.2.1 pc = .ok (.putfield index, 3)) (h : Ex E M Q (pc + 3) ls st (mI μ o k x)) : Ex E M Q pc ls (.int x :: .ref o :: st) μ := by
  intro p e s m args below meth c hc H locs lr hl hP hS
  have hN : o < NC := kd_lt20 (by omega)
  refine va_put hc.1 hc.2.1 hc.2.2.2.2.2.1 hin ty0 hty hnm hc.2.2.2.2.1 hc.2.2.2.2.2.2.2.1 hP (wd_D E μ) hS o (by rw [wd_get hN, ce_obj ho h1]) hc0 k hk (hc.2.2.2.2.2.1 _ hlink) (fun _ h9 => h9) hfin hpd hn hfit (by simpa using hkl) hd (fun H1 l1 hP1 hD1 hS1 => ?_)
  rw [set_range (g := fun j => sh E.2.2.2 (fp (mI μ o k x) o j)) hkl (fun j => by
    rw [fp_mI (by rw [ho]; exact hf)]
    by_cases e : j = k
    · rw [if_pos e, if_pos e]
    · rw [if_neg e, if_neg e]), wd_set (ν := mI μ o k x) hN (by rw [ce_obj ho h1]) (fun _ q => ce_mI q)] at hP1
  exact h p e s m args below meth c hc H1 l1 lr hl hP1 hS1
theorem x_putJ {o ci k N index : Nat} {C : String} {T : u_T} {ty : FieldType} {x : Int64} (ty0 : Nat → FieldType) (hty : ∀ k, k < N → parseFieldDescriptor (T k).2.2.1 = some (ty0 k)) (hnm : ∀ a, a < N → ∀ b, b < N → a ≠ b → (T a).2.1 ≠ (T b).2.1) (ho : kd o = ci) (h1 : ci < 20) (hc0 : classes[ci]? = some (C, T, N)) (hin : ∀ w ∈ u_ws C T N, w ∈ tbG) (hk : k < N) (hkl : k < ln o) (hlink : Cond.fieldLink M.1.cls index (T k).1 (T k).2.1 (T k).2.2.1 ∈ tbG) (hfin : (T k).2.2.2 = false) (hf : ft ci k = 2) (hpd : parseFieldDescriptor (T k).2.2.1 = some ty) (hn : narrow ty (.long x) = .long x) (hfit : fits ty (.long x) = true) (hd : decode M.2.1 pc = .ok (.putfield index, 3)) (h : Ex E M Q (pc + 3) ls st (mJ μ o k x)) : Ex E M Q pc ls (.long x :: .ref o :: st) μ := by
  intro p e s m args below meth c hc H locs lr hl hP hS
  have hN : o < NC := kd_lt20 (by omega)
  refine va_put hc.1 hc.2.1 hc.2.2.2.2.2.1 hin ty0 hty hnm hc.2.2.2.2.1 hc.2.2.2.2.2.2.2.1 hP (wd_D E μ) hS o (by rw [wd_get hN, ce_obj ho h1]) hc0 k hk (hc.2.2.2.2.2.1 _ hlink) (fun _ h9 => h9) hfin hpd hn hfit (by simpa using hkl) hd (fun H1 l1 hP1 hD1 hS1 => ?_)
  rw [set_range (g := fun j => sh E.2.2.2 (fp (mJ μ o k x) o j)) hkl (fun j => by
    rw [fp_mJ (by rw [ho]; exact hf)]
    by_cases e : j = k
    · rw [if_pos e, if_pos e]
    · rw [if_neg e, if_neg e]), wd_set (ν := mJ μ o k x) hN (by rw [ce_obj ho h1]) (fun _ q => ce_mJ q)] at hP1
  exact h p e s m args below meth c hc H1 l1 lr hl hP1 hS1
-- ends
theorem x_iret {x : Int32} {ty : FieldType} (hr : M.2.2.2.1 = some ty) (hn : narrow ty (.int x) = .int x) (hd : decode M.2.1 pc = .ok (.ireturn, 1)) (h : Q (some (.int x)) μ) : Ex E M Q pc ls [.int x] μ := by
  intro p e s m args below meth c hc H locs lr hl hP hS
  exact W.zret hc.1 hc.2.1 (by rw [hc.2.2.1, hr]) hn (fun t ht hW => ⟨⟨some (.int x), μ, rfl, h, by rw [ht]; exact hP⟩, hS.F ht⟩) hS.2.2 hd hc.2.2.2.2.2.2.1
theorem x_lret {x : Int64} (hr : M.2.2.2.1 = some .long) (hd : decode M.2.1 pc = .ok (.lreturn, 1)) (h : Q (some (.long x)) μ) : Ex E M Q pc ls [.long x] μ := by
  intro p e s m args below meth c hc H locs lr hl hP hS
  exact W.lret hc.1 hc.2.1 (by rw [hc.2.2.1, hr]) (fun t ht hW => ⟨⟨some (.long x), μ, rfl, h, by rw [ht]; exact hP⟩, hS.F ht⟩) hS.2.2 hd hc.2.2.2.2.2.2.1
theorem x_vret (hr : M.2.2.2.1 = none) (hd : decode M.2.1 pc = .ok (.return_, 1)) (h : Q none μ) : Ex E M Q pc ls [] μ := by
  intro p e s m args below meth c hc H locs lr hl hP hS
  exact W.vret hc.1 hc.2.1 (by rw [hc.2.2.1, hr]) (fun t ht hW => ⟨⟨none, μ, rfl, h, by rw [ht]; exact hP⟩, hS.F ht⟩) hS.2.2 hd hc.2.2.2.2.2.2.1
theorem x_aret {a : Nat} {rt : FieldType} (hr : M.2.2.2.1 = some rt) (hrt : (∃ n, rt = .object n) ∨ ∃ t, rt = .array t) (hd : decode M.2.1 pc = .ok (.areturn, 1)) (h : Q (some (.ref a)) μ) : Ex E M Q pc ls [.ref a] μ := by
  intro p e s m args below meth c hc H locs lr hl hP hS
  exact W.aret hc.1 hc.2.1 (by rw [hc.2.2.1, hr]) hrt (Or.inr ⟨_, rfl⟩) (fun t ht hW => ⟨⟨some (.ref a), μ, rfl, h, by rw [ht]; exact hP⟩, hS.F ht⟩) hS.2.2 hd hc.2.2.2.2.2.2.1
end XR
end
section
section XC
variable {E : EV} {M M' : MT} {Q Q' : Po} {pc idx : Nat} {ls : List (Nat × Value)} {st : List Value} {μ : Mem}
theorem w_call {p : Program} {e : Env} {R : Room} {s : State} {m : MethodId} {args a : Array Value} {below : List Frame} {meth : Method} {c : Code} {H : Heap} {locs : List Loc} {cells slots : Nat} {Qw : State → Prop} {lr : Array Slot} {st0 rest : List Value}
    (hr : va_Run p E.1 e R s m args below meth c H locs cells slots 0 0 (F0 m pc lr st0) rest (Qd E Q' a) (Fz E)) (hS : va_S (Fz E) s.heap H locs)
    (kk : ∀ (v : Option Value) (ν : Mem) (H1 : Heap) (locs1 : List Loc), Q' v ν → va_P E.2.1 classes (wd E ν) H1 → va_S (Fz E) s.heap H1 locs1 → W p E.1 e R s m args below meth c H1 locs1 cells slots Qw (F0 m (pc + 3) lr ((v.map (sh E.2.2.2)).toList ++ rest))) :
    W p E.1 e R s m args below meth c H locs cells slots Qw (F0 m pc lr st0) := by
  intro T hT X
  obtain ⟨v, st₀, t, T', L, h0, X', hL, e1, e2, ⟨⟨v1, ν, hv, hq, hP1⟩, hz, hk⟩, st⟩ := hr T hT X
  cases hv
  rw [h0] at hz hk
  obtain ⟨t2, a1, b1⟩ := kk v1 ν T'.heap (locs ++ L) hq (by rw [e1]; exact hP1)
    ⟨Nat.le_trans hS.1 (by rw [e1]; exact hz), fun q h1 h2 => by rw [e1, hk q (Nat.lt_of_lt_of_le h1 hS.1) h2]; exact hS.2.1 q h1 h2, fun q hq => by
      rcases List.mem_append.mp hq with h | h
      · exact hS.2.2 q h
      · exact hL q h⟩ T' rfl X'
  exact ⟨t2, st t2 a1, b1⟩
theorem pc_blind (as : List Value) : FrameBlind (va_Pc (as.map (sh E.2.2.2)) (fun U => va_P E.2.1 classes (wd E μ) U.heap ∧ va_K E.2.1 classes (tys E) U ∧ nw U)) := by
  intro a U g mk q
  obtain ⟨q0, qP, qK, qN⟩ := q
  exact ⟨q0, qP, va_K.moved (u := U) (U := U.calling g mk a) (Vm.Alike.refl U.vm) qK, nw_same (s := U) (U := U.calling g mk a) rfl qN⟩
theorem pc_pre {s : State} {H : Heap} (as : List Value) (hK : va_K E.2.1 classes (tys E) s) (hN : nw s) (hP : va_P E.2.1 classes (wd E μ) H) : ∀ U : State, U.heap = H → s.WarmedH U.vm → va_Pc (as.map (sh E.2.2.2)) (fun U => va_P E.2.1 classes (wd E μ) U.heap ∧ va_K E.2.1 classes (tys E) U ∧ nw U) (as.map (sh E.2.2.2)).toArray U :=
  fun U hU hW => ⟨rfl, by rw [hU]; exact hP, va_K.moved hW.alike hK, nw_warm hW hN⟩
theorem cat_sh (sz : Nat) (st : List Value) : ((st.map (sh sz)).map fun v => v.category).sum = (st.map fun v => v.category).sum := by
  induction st with
  | nil => rfl
  | cons v t ih =>
    show (sh sz v).category + ((t.map (sh sz)).map fun v => v.category).sum = v.category + (t.map fun v => v.category).sum
    rw [ih, sh_cat]
/-- what a call's own words are -/
def okV (own : String) (idx : Nat) (M' : MT) : Prop := GoodIn tbG (wsV own idx M'.1.cls M'.1 (mws M')) ∧ M'.1.cls ≠ "java/lang/invoke/MethodHandle" ∧ M'.1.cls ≠ "java/lang/invoke/VarHandle"
def okS (own : String) (idx : Nat) (M' : MT) : Prop := Cond.code M'.1 M'.2.1 M'.2.2.1 M'.2.2.2.1 ∈ tbG ∧ Cond.methodLink own idx M'.1 ∈ tbG ∧ Cond.static M'.1 ∈ tbG ∧ Cond.initialized M'.1.cls ∈ tbG ∧ M'.1.cls ≠ "java/lang/invoke/MethodHandle" ∧ M'.1.cls ≠ "java/lang/invoke/VarHandle"
theorem okV.of {own : String} (h0 : Cond.code M'.1 M'.2.1 M'.2.2.1 M'.2.2.2.1 ∈ tbG) (h1 : Cond.methodLink own idx M'.1 ∈ tbG) (h2 : Cond.instanceMethod M'.1 ∈ tbG) (h3 : Cond.selects M'.1.cls M'.1 M'.1 ∈ tbG) (h4 : Cond.initialized M'.1.cls ∈ tbG) (h5 : M'.1.cls ≠ "java/lang/invoke/MethodHandle") (h6 : M'.1.cls ≠ "java/lang/invoke/VarHandle") : okV own idx M' := by
  refine ⟨fun w hw => ?_, h5, h6⟩
  unfold wsV at hw
  rcases List.mem_append.mp hw with q | q
  · rcases List.mem_cons.mp q with rfl | q
    · exact ⟨h1, tb_good h1⟩
    rcases List.mem_cons.mp q with rfl | q
    · exact ⟨h2, tb_good h2⟩
    rcases List.mem_cons.mp q with rfl | q
    · exact ⟨h3, tb_good h3⟩
    rcases List.mem_cons.mp q with rfl | q
    · exact ⟨h4, tb_good h4⟩
    · cases q
  · exact mws_good h0 w q
theorem x_callV {as : List Value} {o ci : Nat} {own : String} (hw : M.1.cls = own) (ok : okV own idx M') (hn : (parseMethodDescriptor M'.1.desc).map (fun d => d.parameters.length) = some as.length) (hR : M'.2.2.2.2.1 + 1 ≤ M.2.2.2.2.1 ∧ 8 + (M'.2.2.1 + 11) + M'.2.2.2.2.2 ≤ M.2.2.2.2.2) (ho : kd o = ci) (h1 : ci < 20) (hcl : (classes[ci]?).map (fun q => q.1) = some M'.1.cls) (hst : (st.map fun v => v.category).sum ≤ 8) (hd : decode M.2.1 pc = .ok (.invokevirtual idx, 3))
    (h : Sp E M' (.ref o :: as) μ (fun v ν => Ex E M Q (pc + 3) ls (v.toList ++ st) ν)) : Ex E M Q pc ls (as.reverse ++ .ref o :: st) μ := by
  intro p e s m args below meth c hc H locs lr hl hP hS
  subst hw
  obtain ⟨hx, hb, hr, hml, hown, hts, hlk, hK, hN⟩ := hc
  obtain ⟨q, hq, hqc⟩ := Option.map_eq_some_iff.mp hcl
  have hno : o < NC := kd_lt20 (by omega)
  have hrec := va_recv (q0 := o) hK hP hq (by rw [wd_get hno, ce_obj ho h1])
  rw [hqc] at hrec
  refine w_call (va_runV (As := as.map (sh E.2.2.2)) (rest := st.map (sh E.2.2.2)) (b := E.2.2.2 + o) ⟨hx, hb, hml, hown, hts⟩ h (cwV as.length hts ok.1 rfl rfl rfl ⟨rfl, ok.2.1, ok.2.2, hn⟩ hR) ⟨pc_blind (.ref o :: as), hrec, pc_pre (.ref o :: as) hK hN hP⟩ rfl (List.length_map _) hl.1 (by simp [sh]) (lv_room (by rw [cat_sh]; exact hst)) hd ⟨Nat.le_refl _, Nat.le_refl _⟩) hS (fun v ν H1 l1 hQ hP1 hS1 => ?_)
  have h9 := hQ p e s m args below meth c ⟨hx, hb, hr, hml, hown, hts, hlk, hK, hN⟩ H1 l1 lr hl hP1 hS1
  rw [List.map_append] at h9
  cases v with
  | none => exact h9
  | some v => exact h9
theorem x_callS {as : List Value} {own : String} (hw : M.1.cls = own) (ok : okS own idx M') (hn : (parseMethodDescriptor M'.1.desc).map (fun d => d.parameters.length) = some as.length) (hR : M'.2.2.2.2.1 + 1 ≤ M.2.2.2.2.1 ∧ 8 + (M'.2.2.1 + 11) + M'.2.2.2.2.2 ≤ M.2.2.2.2.2) (hst : (st.map fun v => v.category).sum ≤ 8) (hd : decode M.2.1 pc = .ok (.invokestatic idx, 3))
    (h : Sp E M' as μ (fun v ν => Ex E M Q (pc + 3) ls (v.toList ++ st) ν)) : Ex E M Q pc ls (as.reverse ++ st) μ := by
  intro p e s m args below meth c hc H locs lr hl hP hS
  subst hw
  obtain ⟨hx, hb, hr, hml, hown, hts, hlk, hK, hN⟩ := hc
  refine w_call (va_runS (As := as.map (sh E.2.2.2)) (rest := st.map (sh E.2.2.2)) ⟨hx, hb, hml, hown, hts⟩ h ⟨callB_of as.length hts (mws_good ok.1) rfl rfl rfl (hts _ ok.2.2.2.1) (hts _ ok.2.1) ⟨ok.2.2.2.2.1, ok.2.2.2.2.2, hn⟩ hR, hts _ ok.2.2.1⟩ ⟨pc_blind as, pc_pre as hK hN hP⟩ rfl (List.length_map _) hl.1 (by simp) (lv_room (by rw [cat_sh]; exact hst)) hd ⟨Nat.le_refl _, Nat.le_refl _⟩) hS (fun v ν H1 l1 hQ hP1 hS1 => ?_)
  have h9 := hQ p e s m args below meth c ⟨hx, hb, hr, hml, hown, hts, hlk, hK, hN⟩ H1 l1 lr hl hP1 hS1
  rw [List.map_append] at h9
  cases v with
  | none => exact h9
  | some v => exact h9
theorem x_callSN {as : List Value} {own host : String} (hw : M.1.cls = own) (hnw : ∀ s, nw s → va_Nw (.methodLinkNest own idx M'.1 host) s) (h0 : Cond.code M'.1 M'.2.1 M'.2.2.1 M'.2.2.2.1 ∈ tbG) (h1 : Cond.static M'.1 ∈ tbG) (h2 : Cond.initialized M'.1.cls ∈ tbG) (h3 : M'.1.cls ≠ "java/lang/invoke/MethodHandle") (h4 : M'.1.cls ≠ "java/lang/invoke/VarHandle") (hn : (parseMethodDescriptor M'.1.desc).map (fun d => d.parameters.length) = some as.length) (hR : M'.2.2.2.2.1 + 1 ≤ M.2.2.2.2.1 ∧ 8 + (M'.2.2.1 + 11) + M'.2.2.2.2.2 ≤ M.2.2.2.2.2) (hst : (st.map fun v => v.category).sum ≤ 8) (hd : decode M.2.1 pc = .ok (.invokestatic idx, 3))
    (h : Sp E M' as μ (fun v ν => Ex E M Q (pc + 3) ls (v.toList ++ st) ν)) : Ex E M Q pc ls (as.reverse ++ st) μ := by
  intro p e s m args below meth c hc H locs lr hl hP hS
  subst hw
  obtain ⟨hx, hb, hr, hml, hown, hts, hlk, hK, hN⟩ := hc
  refine w_call (va_runSN (As := as.map (sh E.2.2.2)) (rest := st.map (sh E.2.2.2)) ⟨hx, hb, hml, hown, hts⟩ h ⟨va_cnB as.length hts (mws_good h0) rfl rfl rfl (hnw s hN) (hts _ h2) ⟨h3, h4, hn⟩ hR, hts _ h1, trivial⟩ ⟨pc_blind as, pc_pre as hK hN hP⟩ rfl (List.length_map _) hl.1 (by simp) (lv_room (by rw [cat_sh]; exact hst)) hd ⟨Nat.le_refl _, Nat.le_refl _⟩) hS (fun v ν H1 l1 hQ hP1 hS1 => ?_)
  have h9 := hQ p e s m args below meth c ⟨hx, hb, hr, hml, hown, hts, hlk, hK, hN⟩ H1 l1 lr hl hP1 hS1
  rw [List.map_append] at h9
  cases v with
  | none => exact h9
  | some v => exact h9
/-- System.arraycopy, ints -/
def mCI (μ : Mem) (a i b j n : Nat) : Mem := (fun c k => if c = b ∧ (j ≤ k ∧ k < j + n) then μ.1 a (i + (k - j)) else μ.1 c k, μ.2)
def mCJ (μ : Mem) (a i b j n : Nat) : Mem := (μ.1, fun c k => if c = b ∧ (j ≤ k ∧ k < j + n) then μ.2 a (i + (k - j)) else μ.2 c k)
theorem mCI_eq (a i b j n : Nat) : va_cpy (μ.1 a) (μ.1 b) i j n = (mCI μ a i b j n).1 b := by
  funext k
  by_cases h : j ≤ k ∧ k < j + n
  · rw [pk_cpy_in h.1 h.2]; simp [mCI, h]
  · rw [pk_cpy_out (by omega)]; simp [mCI, h]
theorem mCJ_eq (a i b j n : Nat) : va_cpy (μ.2 a) (μ.2 b) i j n = (mCJ μ a i b j n).2 b := by
  funext k
  by_cases h : j ≤ k ∧ k < j + n
  · rw [pk_cpy_in h.1 h.2]; simp [mCJ, h]
  · rw [pk_cpy_out (by omega)]; simp [mCJ, h]
theorem mCI_ne {a i b j n c : Nat} (h : c ≠ b) : (mCI μ a i b j n).1 c = μ.1 c := by
  funext k
  simp [mCI, h]
theorem mCJ_ne {a i b j n c : Nat} (h : c ≠ b) : (mCJ μ a i b j n).2 c = μ.2 c := by
  funext k
  simp [mCJ, h]
theorem x_copyI {a b : Nat} {sp dp n : Int32} {own : String} (hw : M.1.cls = own) (hlink : Cond.methodLink own idx arraycopyName ∈ tbG) (hnat : Cond.native arraycopyName ∈ tbG) (hstat : Cond.static arraycopyName ∈ tbG) (hini : Cond.initialized "java/lang/System" ∈ tbG) (ha : kd a = 20) (hb0 : kd b = 20) (h1 : ¬ sp < 0) (h2 : ¬ dp < 0) (h3 : ¬ n < 0) (h4 : sp.toNatClampNeg + n.toNatClampNeg ≤ ln a) (h5 : dp.toNatClampNeg + n.toNatClampNeg ≤ ln b) (hfr : 1 ≤ M.2.2.2.2.1) (hlo : (st.map fun v => v.category).sum + (nativeFrameWords "java/lang/System" "arraycopy" 5 + 11) ≤ M.2.2.2.2.2) (hd : decode M.2.1 pc = .ok (.invokestatic idx, 3))
    (h : Ex E M Q (pc + 3) ls st (mCI μ a sp.toNatClampNeg b dp.toNatClampNeg n.toNatClampNeg)) : Ex E M Q pc ls (.int n :: .int dp :: .ref b :: .int sp :: .ref a :: st) μ := by
  intro p e s m args below meth c hc H locs lr hl hP hS
  subst hw
  obtain ⟨hx, hb, hr, hml, hown, hts, hlk, hK, hN⟩ := id hc
  have hnb : b < NC := kd_lt20 (by omega)
  refine va_copyi hx hb (hml.trans hl.1.symm) hown (hts _ hlink) (hts _ hnat) (hts _ hstat) (hts _ hini) hK hP (wd_D E μ) hS a b 0 0 (by rw [wd_get (kd_lt20 (by omega)), ce_int ha]) (by rw [wd_get hnb, ce_int hb0]) rfl rfl rfl h1 h2 h3 h4 h5 (fun _ _ => rfl) hfr (by rw [cat_sh]; exact hlo) hd (fun H1 l1 hP1 hD1 hS1 => ?_)
  rw [wd_set (E := E) (μ := μ) (ν := mCI μ a sp.toNatClampNeg b dp.toNatClampNeg n.toNatClampNeg) hnb (by rw [ce_int hb0, mCI_eq]) (fun _ q => ce_congr (mCI_ne q) rfl)] at hP1
  exact h p e s m args below meth c hc H1 l1 lr hl hP1 hS1
theorem x_copyJ {a b : Nat} {sp dp n : Int32} {own : String} (hw : M.1.cls = own) (hlink : Cond.methodLink own idx arraycopyName ∈ tbG) (hnat : Cond.native arraycopyName ∈ tbG) (hstat : Cond.static arraycopyName ∈ tbG) (hini : Cond.initialized "java/lang/System" ∈ tbG) (ha : kd a = 21) (hb0 : kd b = 21) (h1 : ¬ sp < 0) (h2 : ¬ dp < 0) (h3 : ¬ n < 0) (h4 : sp.toNatClampNeg + n.toNatClampNeg ≤ ln a) (h5 : dp.toNatClampNeg + n.toNatClampNeg ≤ ln b) (hfr : 1 ≤ M.2.2.2.2.1) (hlo : (st.map fun v => v.category).sum + (nativeFrameWords "java/lang/System" "arraycopy" 5 + 11) ≤ M.2.2.2.2.2) (hd : decode M.2.1 pc = .ok (.invokestatic idx, 3))
    (h : Ex E M Q (pc + 3) ls st (mCJ μ a sp.toNatClampNeg b dp.toNatClampNeg n.toNatClampNeg)) : Ex E M Q pc ls (.int n :: .int dp :: .ref b :: .int sp :: .ref a :: st) μ := by
  intro p e s m args below meth c hc H locs lr hl hP hS
  subst hw
  obtain ⟨hx, hb, hr, hml, hown, hts, hlk, hK, hN⟩ := id hc
  have hnb : b < NC := kd_lt20 (by omega)
  refine va_copyl hx hb (hml.trans hl.1.symm) hown (hts _ hlink) (hts _ hnat) (hts _ hstat) (hts _ hini) hK hP (wd_D E μ) hS a b 1 1 (by rw [wd_get (kd_lt20 (by omega)), ce_long ha]) (by rw [wd_get hnb, ce_long hb0]) rfl rfl rfl h1 h2 h3 h4 h5 (fun _ _ => rfl) hfr (by rw [cat_sh]; exact hlo) hd (fun H1 l1 hP1 hD1 hS1 => ?_)
  rw [wd_set (E := E) (μ := μ) (ν := mCJ μ a sp.toNatClampNeg b dp.toNatClampNeg n.toNatClampNeg) hnb (by rw [ce_long hb0, mCJ_eq]) (fun _ q => ce_congr rfl (mCJ_ne q))] at hP1
  exact h p e s m args below meth c hc H1 l1 lr hl hP1 hS1
end XC
end
