section
-- ===== PART A: goes FIRST, ahead of the names: the tables' words, and 'selects' of the private methods out of them =====
/-- a private method of a class that the tables say can be made, by its rows of tables_1 -/
def lw_okq (q : MethodName × Nat) : Prop := (q.1.cls ≠ "java/lang/invoke/MethodHandle" ∧ q.1.cls ≠ "java/lang/invoke/VarHandle") ∧ Cond.instantiable q.1.cls q.2 ∈ tables_1 ∧ Cond.privateMethod q.1 ∈ tables_1 ∧ Cond.instanceMethod q.1 ∈ tables_1
theorem lw_p0 : lw_okq (⟨"RoofMattress$Reader", "readClause", "(LRoofMattress$Text;I)I"⟩, 4) := ⟨⟨by decide +kernel, by decide +kernel⟩, List.mem_of_getElem? (i := 39) (by decide +kernel), List.mem_of_getElem? (i := 361) (by decide +kernel), List.mem_of_getElem? (i := 362) (by decide +kernel)⟩
theorem lw_p1 : lw_okq (⟨"RoofMattress$Reader", "wordFault", "(I)I"⟩, 4) := ⟨⟨by decide +kernel, by decide +kernel⟩, List.mem_of_getElem? (i := 39) (by decide +kernel), List.mem_of_getElem? (i := 369) (by decide +kernel), List.mem_of_getElem? (i := 370) (by decide +kernel)⟩
theorem lw_p2 : lw_okq (⟨"RoofMattress$Reader", "fail", "(II)I"⟩, 4) := ⟨⟨by decide +kernel, by decide +kernel⟩, List.mem_of_getElem? (i := 39) (by decide +kernel), List.mem_of_getElem? (i := 373) (by decide +kernel), List.mem_of_getElem? (i := 374) (by decide +kernel)⟩
theorem lw_p3 : lw_okq (⟨"RoofMattress$Reader", "readNumber", "(LRoofMattress$Text;III)I"⟩, 4) := ⟨⟨by decide +kernel, by decide +kernel⟩, List.mem_of_getElem? (i := 39) (by decide +kernel), List.mem_of_getElem? (i := 377) (by decide +kernel), List.mem_of_getElem? (i := 378) (by decide +kernel)⟩
theorem lw_p4 : lw_okq (⟨"RoofMattress$Reader", "take", "(I)V"⟩, 4) := ⟨⟨by decide +kernel, by decide +kernel⟩, List.mem_of_getElem? (i := 39) (by decide +kernel), List.mem_of_getElem? (i := 389) (by decide +kernel), List.mem_of_getElem? (i := 390) (by decide +kernel)⟩
theorem lw_p5 : lw_okq (⟨"RoofMattress", "milesLeft", "()I"⟩, 11) := ⟨⟨by decide +kernel, by decide +kernel⟩, List.mem_of_getElem? (i := 15) (by decide +kernel), List.mem_of_getElem? (i := 445) (by decide +kernel), List.mem_of_getElem? (i := 446) (by decide +kernel)⟩
theorem lw_p6 : lw_okq (⟨"RoofMattress", "travel", "(IIZ)I"⟩, 11) := ⟨⟨by decide +kernel, by decide +kernel⟩, List.mem_of_getElem? (i := 15) (by decide +kernel), List.mem_of_getElem? (i := 512) (by decide +kernel), List.mem_of_getElem? (i := 513) (by decide +kernel)⟩
theorem lw_p7 : lw_okq (⟨"RoofMattress", "onTheRoof", "()Z"⟩, 11) := ⟨⟨by decide +kernel, by decide +kernel⟩, List.mem_of_getElem? (i := 15) (by decide +kernel), List.mem_of_getElem? (i := 519) (by decide +kernel), List.mem_of_getElem? (i := 520) (by decide +kernel)⟩
theorem lw_p8 : lw_okq (⟨"RoofMattress", "nextDraw", "()I"⟩, 11) := ⟨⟨by decide +kernel, by decide +kernel⟩, List.mem_of_getElem? (i := 15) (by decide +kernel), List.mem_of_getElem? (i := 535) (by decide +kernel), List.mem_of_getElem? (i := 536) (by decide +kernel)⟩
theorem lw_p9 : lw_okq (⟨"RoofMattress", "climb", "(IIII)I"⟩, 11) := ⟨⟨by decide +kernel, by decide +kernel⟩, List.mem_of_getElem? (i := 15) (by decide +kernel), List.mem_of_getElem? (i := 599) (by decide +kernel), List.mem_of_getElem? (i := 600) (by decide +kernel)⟩
theorem lw_p10 : lw_okq (⟨"RoofMattress$Ride", "goesOver", "(LRoofMattress$Plan;III)Z"⟩, 10) := ⟨⟨by decide +kernel, by decide +kernel⟩, List.mem_of_getElem? (i := 252) (by decide +kernel), List.mem_of_getElem? (i := 629) (by decide +kernel), List.mem_of_getElem? (i := 630) (by decide +kernel)⟩
theorem lw_p11 : lw_okq (⟨"RoofMattress$Ride", "holdsNext", "(II)Z"⟩, 10) := ⟨⟨by decide +kernel, by decide +kernel⟩, List.mem_of_getElem? (i := 252) (by decide +kernel), List.mem_of_getElem? (i := 637) (by decide +kernel), List.mem_of_getElem? (i := 638) (by decide +kernel)⟩
theorem lw_p12 : lw_okq (⟨"RoofMattress$Ride", "pullAhead", "()V"⟩, 10) := ⟨⟨by decide +kernel, by decide +kernel⟩, List.mem_of_getElem? (i := 252) (by decide +kernel), List.mem_of_getElem? (i := 641) (by decide +kernel), List.mem_of_getElem? (i := 642) (by decide +kernel)⟩
theorem lw_p13 : lw_okq (⟨"RoofMattressModel", "isRead", "()Z"⟩, 36) := ⟨⟨by decide +kernel, by decide +kernel⟩, List.mem_of_getElem? (i := 752) (by decide +kernel), List.mem_of_getElem? (i := 880) (by decide +kernel), List.mem_of_getElem? (i := 881) (by decide +kernel)⟩
theorem lw_p14 : lw_okq (⟨"RoofMattressModel", "nextToken", "()V"⟩, 36) := ⟨⟨by decide +kernel, by decide +kernel⟩, List.mem_of_getElem? (i := 752) (by decide +kernel), List.mem_of_getElem? (i := 884) (by decide +kernel), List.mem_of_getElem? (i := 885) (by decide +kernel)⟩
theorem lw_p15 : lw_okq (⟨"RoofMattressModel", "isClause", "()Z"⟩, 36) := ⟨⟨by decide +kernel, by decide +kernel⟩, List.mem_of_getElem? (i := 752) (by decide +kernel), List.mem_of_getElem? (i := 888) (by decide +kernel), List.mem_of_getElem? (i := 889) (by decide +kernel)⟩
def lw_privs_1 : List (MethodName × Nat) := [(⟨"RoofMattress$Reader", "readClause", "(LRoofMattress$Text;I)I"⟩, 4), (⟨"RoofMattress$Reader", "wordFault", "(I)I"⟩, 4), (⟨"RoofMattress$Reader", "fail", "(II)I"⟩, 4), (⟨"RoofMattress$Reader", "readNumber", "(LRoofMattress$Text;III)I"⟩, 4), (⟨"RoofMattress$Reader", "take", "(I)V"⟩, 4), (⟨"RoofMattress", "milesLeft", "()I"⟩, 11), (⟨"RoofMattress", "travel", "(IIZ)I"⟩, 11), (⟨"RoofMattress", "onTheRoof", "()Z"⟩, 11), (⟨"RoofMattress", "nextDraw", "()I"⟩, 11), (⟨"RoofMattress", "climb", "(IIII)I"⟩, 11), (⟨"RoofMattress$Ride", "goesOver", "(LRoofMattress$Plan;III)Z"⟩, 10), (⟨"RoofMattress$Ride", "holdsNext", "(II)Z"⟩, 10), (⟨"RoofMattress$Ride", "pullAhead", "()V"⟩, 10), (⟨"RoofMattressModel", "isRead", "()Z"⟩, 36), (⟨"RoofMattressModel", "nextToken", "()V"⟩, 36), (⟨"RoofMattressModel", "isClause", "()Z"⟩, 36)]
theorem lw_r1 : ∀ q ∈ lw_privs_1, lw_okq q := List.forall_mem_cons.mpr ⟨lw_p0, List.forall_mem_cons.mpr ⟨lw_p1, List.forall_mem_cons.mpr ⟨lw_p2, List.forall_mem_cons.mpr ⟨lw_p3, List.forall_mem_cons.mpr ⟨lw_p4, List.forall_mem_cons.mpr ⟨lw_p5, List.forall_mem_cons.mpr ⟨lw_p6, List.forall_mem_cons.mpr ⟨lw_p7, List.forall_mem_cons.mpr ⟨lw_p8, List.forall_mem_cons.mpr ⟨lw_p9, List.forall_mem_cons.mpr ⟨lw_p10, List.forall_mem_cons.mpr ⟨lw_p11, List.forall_mem_cons.mpr ⟨lw_p12, List.forall_mem_cons.mpr ⟨lw_p13, List.forall_mem_cons.mpr ⟨lw_p14, List.forall_mem_cons.mpr ⟨lw_p15, fun _ h => absurd h List.not_mem_nil⟩⟩⟩⟩⟩⟩⟩⟩⟩⟩⟩⟩⟩⟩⟩⟩
theorem lw_p16 : lw_okq (⟨"RoofMattressModel", "fails", "(I)Z"⟩, 36) := ⟨⟨by decide +kernel, by decide +kernel⟩, List.mem_of_getElem? (i := 752) (by decide +kernel), List.mem_of_getElem? (i := 892) (by decide +kernel), List.mem_of_getElem? (i := 893) (by decide +kernel)⟩
theorem lw_p17 : lw_okq (⟨"RoofMattressModel", "areThree", "([IIIIIIII)Z"⟩, 36) := ⟨⟨by decide +kernel, by decide +kernel⟩, List.mem_of_getElem? (i := 752) (by decide +kernel), List.mem_of_getElem? (i := 896) (by decide +kernel), List.mem_of_getElem? (i := 897) (by decide +kernel)⟩
theorem lw_p18 : lw_okq (⟨"RoofMattressModel", "isNumber", "(II)Z"⟩, 36) := ⟨⟨by decide +kernel, by decide +kernel⟩, List.mem_of_getElem? (i := 752) (by decide +kernel), List.mem_of_getElem? (i := 900) (by decide +kernel), List.mem_of_getElem? (i := 901) (by decide +kernel)⟩
theorem lw_p19 : lw_okq (⟨"RoofMattressModel", "pullAll", "([I)V"⟩, 36) := ⟨⟨by decide +kernel, by decide +kernel⟩, List.mem_of_getElem? (i := 752) (by decide +kernel), List.mem_of_getElem? (i := 907) (by decide +kernel), List.mem_of_getElem? (i := 908) (by decide +kernel)⟩
theorem lw_p20 : lw_okq (⟨"RoofMattressModel", "pull", "([II)V"⟩, 36) := ⟨⟨by decide +kernel, by decide +kernel⟩, List.mem_of_getElem? (i := 752) (by decide +kernel), List.mem_of_getElem? (i := 911) (by decide +kernel), List.mem_of_getElem? (i := 912) (by decide +kernel)⟩
theorem lw_p21 : lw_okq (⟨"RoofMattressModel", "allMiles", "()I"⟩, 36) := ⟨⟨by decide +kernel, by decide +kernel⟩, List.mem_of_getElem? (i := 752) (by decide +kernel), List.mem_of_getElem? (i := 915) (by decide +kernel), List.mem_of_getElem? (i := 916) (by decide +kernel)⟩
theorem lw_p22 : lw_okq (⟨"RoofMattressModel", "roadOf", "(I)I"⟩, 36) := ⟨⟨by decide +kernel, by decide +kernel⟩, List.mem_of_getElem? (i := 752) (by decide +kernel), List.mem_of_getElem? (i := 927) (by decide +kernel), List.mem_of_getElem? (i := 928) (by decide +kernel)⟩
theorem lw_p23 : lw_okq (⟨"RoofMattressModel", "isCord", "(I)Z"⟩, 36) := ⟨⟨by decide +kernel, by decide +kernel⟩, List.mem_of_getElem? (i := 752) (by decide +kernel), List.mem_of_getElem? (i := 935) (by decide +kernel), List.mem_of_getElem? (i := 936) (by decide +kernel)⟩
theorem lw_p24 : lw_okq (⟨"RoofMattressModel", "liftBy", "(II)I"⟩, 36) := ⟨⟨by decide +kernel, by decide +kernel⟩, List.mem_of_getElem? (i := 752) (by decide +kernel), List.mem_of_getElem? (i := 949) (by decide +kernel), List.mem_of_getElem? (i := 950) (by decide +kernel)⟩
theorem lw_p25 : lw_okq (⟨"RoofMattressModel", "frontHold", "([I)I"⟩, 36) := ⟨⟨by decide +kernel, by decide +kernel⟩, List.mem_of_getElem? (i := 752) (by decide +kernel), List.mem_of_getElem? (i := 953) (by decide +kernel), List.mem_of_getElem? (i := 954) (by decide +kernel)⟩
theorem lw_p26 : lw_okq (⟨"RoofMattressModel", "backHold", "([I)I"⟩, 36) := ⟨⟨by decide +kernel, by decide +kernel⟩, List.mem_of_getElem? (i := 752) (by decide +kernel), List.mem_of_getElem? (i := 957) (by decide +kernel), List.mem_of_getElem? (i := 958) (by decide +kernel)⟩
theorem lw_p27 : lw_okq (⟨"RoofMattressModel", "holds", "([III)Z"⟩, 36) := ⟨⟨by decide +kernel, by decide +kernel⟩, List.mem_of_getElem? (i := 752) (by decide +kernel), List.mem_of_getElem? (i := 961) (by decide +kernel), List.mem_of_getElem? (i := 962) (by decide +kernel)⟩
theorem lw_p28 : lw_okq (⟨"RoofMattressModel", "holdsBy", "([IIII)Z"⟩, 36) := ⟨⟨by decide +kernel, by decide +kernel⟩, List.mem_of_getElem? (i := 752) (by decide +kernel), List.mem_of_getElem? (i := 965) (by decide +kernel), List.mem_of_getElem? (i := 966) (by decide +kernel)⟩
theorem lw_p29 : lw_okq (⟨"RoofMattressModel", "goMiles", "(IIZ)I"⟩, 36) := ⟨⟨by decide +kernel, by decide +kernel⟩, List.mem_of_getElem? (i := 752) (by decide +kernel), List.mem_of_getElem? (i := 973) (by decide +kernel), List.mem_of_getElem? (i := 974) (by decide +kernel)⟩
theorem lw_p30 : lw_okq (⟨"RoofMattressModel", "canGo", "()Z"⟩, 36) := ⟨⟨by decide +kernel, by decide +kernel⟩, List.mem_of_getElem? (i := 752) (by decide +kernel), List.mem_of_getElem? (i := 977) (by decide +kernel), List.mem_of_getElem? (i := 978) (by decide +kernel)⟩
theorem lw_p31 : lw_okq (⟨"RoofMattressModel", "draw", "(I)I"⟩, 36) := ⟨⟨by decide +kernel, by decide +kernel⟩, List.mem_of_getElem? (i := 752) (by decide +kernel), List.mem_of_getElem? (i := 981) (by decide +kernel), List.mem_of_getElem? (i := 982) (by decide +kernel)⟩
def lw_privs_2 : List (MethodName × Nat) := [(⟨"RoofMattressModel", "fails", "(I)Z"⟩, 36), (⟨"RoofMattressModel", "areThree", "([IIIIIIII)Z"⟩, 36), (⟨"RoofMattressModel", "isNumber", "(II)Z"⟩, 36), (⟨"RoofMattressModel", "pullAll", "([I)V"⟩, 36), (⟨"RoofMattressModel", "pull", "([II)V"⟩, 36), (⟨"RoofMattressModel", "allMiles", "()I"⟩, 36), (⟨"RoofMattressModel", "roadOf", "(I)I"⟩, 36), (⟨"RoofMattressModel", "isCord", "(I)Z"⟩, 36), (⟨"RoofMattressModel", "liftBy", "(II)I"⟩, 36), (⟨"RoofMattressModel", "frontHold", "([I)I"⟩, 36), (⟨"RoofMattressModel", "backHold", "([I)I"⟩, 36), (⟨"RoofMattressModel", "holds", "([III)Z"⟩, 36), (⟨"RoofMattressModel", "holdsBy", "([IIII)Z"⟩, 36), (⟨"RoofMattressModel", "goMiles", "(IIZ)I"⟩, 36), (⟨"RoofMattressModel", "canGo", "()Z"⟩, 36), (⟨"RoofMattressModel", "draw", "(I)I"⟩, 36)]
theorem lw_r2 : ∀ q ∈ lw_privs_2, lw_okq q := List.forall_mem_cons.mpr ⟨lw_p16, List.forall_mem_cons.mpr ⟨lw_p17, List.forall_mem_cons.mpr ⟨lw_p18, List.forall_mem_cons.mpr ⟨lw_p19, List.forall_mem_cons.mpr ⟨lw_p20, List.forall_mem_cons.mpr ⟨lw_p21, List.forall_mem_cons.mpr ⟨lw_p22, List.forall_mem_cons.mpr ⟨lw_p23, List.forall_mem_cons.mpr ⟨lw_p24, List.forall_mem_cons.mpr ⟨lw_p25, List.forall_mem_cons.mpr ⟨lw_p26, List.forall_mem_cons.mpr ⟨lw_p27, List.forall_mem_cons.mpr ⟨lw_p28, List.forall_mem_cons.mpr ⟨lw_p29, List.forall_mem_cons.mpr ⟨lw_p30, List.forall_mem_cons.mpr ⟨lw_p31, fun _ h => absurd h List.not_mem_nil⟩⟩⟩⟩⟩⟩⟩⟩⟩⟩⟩⟩⟩⟩⟩⟩
theorem lw_p32 : lw_okq (⟨"RoofMattressModel", "note", "()V"⟩, 36) := ⟨⟨by decide +kernel, by decide +kernel⟩, List.mem_of_getElem? (i := 752) (by decide +kernel), List.mem_of_getElem? (i := 989) (by decide +kernel), List.mem_of_getElem? (i := 990) (by decide +kernel)⟩
theorem lw_p33 : lw_okq (⟨"RoofMattressModel", "goOn", "([III)Z"⟩, 36) := ⟨⟨by decide +kernel, by decide +kernel⟩, List.mem_of_getElem? (i := 752) (by decide +kernel), List.mem_of_getElem? (i := 993) (by decide +kernel), List.mem_of_getElem? (i := 994) (by decide +kernel)⟩
theorem lw_p34 : lw_okq (⟨"RoofMattressModel", "slacken", "([I)V"⟩, 36) := ⟨⟨by decide +kernel, by decide +kernel⟩, List.mem_of_getElem? (i := 752) (by decide +kernel), List.mem_of_getElem? (i := 997) (by decide +kernel), List.mem_of_getElem? (i := 998) (by decide +kernel)⟩
theorem lw_p35 : lw_okq (⟨"RoofMattressModel", "highestBy", "([III)I"⟩, 36) := ⟨⟨by decide +kernel, by decide +kernel⟩, List.mem_of_getElem? (i := 752) (by decide +kernel), List.mem_of_getElem? (i := 1030) (by decide +kernel), List.mem_of_getElem? (i := 1031) (by decide +kernel)⟩
theorem lw_p36 : lw_okq (⟨"RoofMattressModel", "begin", "()V"⟩, 36) := ⟨⟨by decide +kernel, by decide +kernel⟩, List.mem_of_getElem? (i := 752) (by decide +kernel), List.mem_of_getElem? (i := 1038) (by decide +kernel), List.mem_of_getElem? (i := 1039) (by decide +kernel)⟩
theorem lw_p37 : lw_okq (⟨"RoofMattressModel", "layStops", "(I)Z"⟩, 36) := ⟨⟨by decide +kernel, by decide +kernel⟩, List.mem_of_getElem? (i := 752) (by decide +kernel), List.mem_of_getElem? (i := 1050) (by decide +kernel), List.mem_of_getElem? (i := 1051) (by decide +kernel)⟩
theorem lw_p38 : lw_okq (⟨"RoofMattressModel", "layWays", "(I)V"⟩, 36) := ⟨⟨by decide +kernel, by decide +kernel⟩, List.mem_of_getElem? (i := 752) (by decide +kernel), List.mem_of_getElem? (i := 1062) (by decide +kernel), List.mem_of_getElem? (i := 1063) (by decide +kernel)⟩
theorem lw_p39 : lw_okq (⟨"RoofMattressModel", "couldBe", "(II)Z"⟩, 36) := ⟨⟨by decide +kernel, by decide +kernel⟩, List.mem_of_getElem? (i := 752) (by decide +kernel), List.mem_of_getElem? (i := 1088) (by decide +kernel), List.mem_of_getElem? (i := 1089) (by decide +kernel)⟩
theorem lw_p40 : lw_okq (⟨"RoofMattressModel", "wouldHold", "(IIII)Z"⟩, 36) := ⟨⟨by decide +kernel, by decide +kernel⟩, List.mem_of_getElem? (i := 752) (by decide +kernel), List.mem_of_getElem? (i := 1092) (by decide +kernel), List.mem_of_getElem? (i := 1093) (by decide +kernel)⟩
def lw_privs_3 : List (MethodName × Nat) := [(⟨"RoofMattressModel", "note", "()V"⟩, 36), (⟨"RoofMattressModel", "goOn", "([III)Z"⟩, 36), (⟨"RoofMattressModel", "slacken", "([I)V"⟩, 36), (⟨"RoofMattressModel", "highestBy", "([III)I"⟩, 36), (⟨"RoofMattressModel", "begin", "()V"⟩, 36), (⟨"RoofMattressModel", "layStops", "(I)Z"⟩, 36), (⟨"RoofMattressModel", "layWays", "(I)V"⟩, 36), (⟨"RoofMattressModel", "couldBe", "(II)Z"⟩, 36), (⟨"RoofMattressModel", "wouldHold", "(IIII)Z"⟩, 36)]
theorem lw_r3 : ∀ q ∈ lw_privs_3, lw_okq q := List.forall_mem_cons.mpr ⟨lw_p32, List.forall_mem_cons.mpr ⟨lw_p33, List.forall_mem_cons.mpr ⟨lw_p34, List.forall_mem_cons.mpr ⟨lw_p35, List.forall_mem_cons.mpr ⟨lw_p36, List.forall_mem_cons.mpr ⟨lw_p37, List.forall_mem_cons.mpr ⟨lw_p38, List.forall_mem_cons.mpr ⟨lw_p39, List.forall_mem_cons.mpr ⟨lw_p40, fun _ h => absurd h List.not_mem_nil⟩⟩⟩⟩⟩⟩⟩⟩⟩
def lw_privs : List (MethodName × Nat) := lw_privs_1 ++ (lw_privs_2 ++ (lw_privs_3))
def lw_tbl : List Cond := k2_sels lw_privs ++ tables_1
theorem lw_privs_ok : ∀ q ∈ lw_privs, lw_okq q := by
  show ∀ q ∈ lw_privs_1 ++ (lw_privs_2 ++ (lw_privs_3)), lw_okq q
  exact List.forall_mem_append.mpr ⟨lw_r1, List.forall_mem_append.mpr ⟨lw_r2, lw_r3⟩⟩
theorem goodIn_r {big : List Cond} (ws : List Cond) (ps : List Nat) (hp : ws = ps.filterMap (fun i => big[i]?)) (h : ws.all goodWord = true) : GoodIn big ws := by
  intro w hw
  have h1 := List.all_eq_true.mp h w hw
  rw [hp] at hw
  obtain ⟨i, -, hi⟩ := List.mem_filterMap.mp hw
  have hm : w ∈ big := by first | exact List.mem_of_getElem? hi | exact List.getElem?_mem hi
  exact ⟨hm, good_of_word h1⟩
theorem goodIn_app {big a b : List Cond} (ha : GoodIn big a) (hb : GoodIn big b) : GoodIn big (a ++ b) := fun w h => (List.mem_append.mp h).elim (ha w) (hb w)
theorem goodIn_ca {big a b : List Cond} {c : Cond} (ha : GoodIn big (c :: a)) (hb : GoodIn big b) : GoodIn big (c :: (a ++ b)) := fun w h => (List.mem_cons.mp h).elim (fun e => ha w (List.mem_cons.mpr (Or.inl e))) (fun h => (List.mem_append.mp h).elim (fun h => ha w (List.mem_cons.mpr (Or.inr h))) (hb w))
theorem goodIn_sub {big ws : List Cond} (hm : ∀ w ∈ ws, w ∈ big) (h : ws.all goodWord = true) : GoodIn big ws := fun w hw => ⟨hm w hw, good_of_word (List.all_eq_true.mp h w hw)⟩
def RX0 : String := "RoofMattress$Book"
def TX0 : u_T := fun k => match k with
  | 0 => ("RoofMattress$Book", "cords", "[I", true)
  | 1 => ("RoofMattress$Book", "tights", "[I", true)
  | _ => ("RoofMattress$Book", "count", "I", false)
def tyX0 : Nat → FieldType := fun k => match k with
  | 0 => .array .int
  | 1 => .array .int
  | _ => .int
abbrev wsX00 : List Cond := u_ws RX0 TX0 3
theorem nmX0 : ∀ a, a < 3 → ∀ b, b < 3 → a ≠ b → (TX0 a).2.1 ≠ (TX0 b).2.1 := by decide +kernel
theorem tyX0_ok : ∀ k, k < 3 → parseFieldDescriptor (TX0 k).2.2.1 = some (tyX0 k) := by decide +kernel
abbrev cX0_init : ByteArray := prog_2_method_1_code
def yX0_init : MethodName := ⟨RX0, "<init>", "()V"⟩
abbrev cX0_add : ByteArray := prog_2_method_2_code
def yX0_add : MethodName := ⟨RX0, "add", "(II)Z"⟩
abbrev cX0_firstWrong : ByteArray := prog_2_method_3_code
def yX0_firstWrong : MethodName := ⟨RX0, "firstWrong", "(LRoofMattress$Now;)I"⟩
def RX1 : String := "RoofMattress$Deeds"
def TX1 : u_T := fun k => match k with
  | 0 => ("RoofMattress$Deeds", "rows", "[I", true)
  | 1 => ("RoofMattress$Deeds", "next", "I", false)
  | _ => ("RoofMattress$Deeds", "count", "I", false)
def tyX1 : Nat → FieldType := fun k => match k with
  | 0 => .array .int
  | 1 => .int
  | _ => .int
abbrev wsX10 : List Cond := u_ws RX1 TX1 3
theorem nmX1 : ∀ a, a < 3 → ∀ b, b < 3 → a ≠ b → (TX1 a).2.1 ≠ (TX1 b).2.1 := by decide +kernel
theorem tyX1_ok : ∀ k, k < 3 → parseFieldDescriptor (TX1 k).2.2.1 = some (tyX1 k) := by decide +kernel
abbrev cX1_init : ByteArray := prog_3_method_1_code
def yX1_init : MethodName := ⟨RX1, "<init>", "()V"⟩
abbrev cX1_forget : ByteArray := prog_3_method_2_code
def yX1_forget : MethodName := ⟨RX1, "forget", "()V"⟩
abbrev cX1_push : ByteArray := prog_3_method_3_code
def yX1_push : MethodName := ⟨RX1, "push", "(LRoofMattress$Now;)V"⟩
abbrev cX1_pop : ByteArray := prog_3_method_4_code
def yX1_pop : MethodName := ⟨RX1, "pop", "(LRoofMattress$Now;I)V"⟩
def RX2 : String := "RoofMattress$Images"
def TX2 : u_T := fun k => match k with
  | 0 => ("RoofMattress$Images", "rows", "[I", true)
  | 1 => ("RoofMattress$Images", "seeds", "[I", true)
  | _ => ("RoofMattress$Images", "kept", "[Z", true)
def tyX2 : Nat → FieldType := fun k => match k with
  | 0 => .array .int
  | 1 => .array .int
  | _ => .array .boolean
abbrev wsX20 : List Cond := u_ws RX2 TX2 3
theorem nmX2 : ∀ a, a < 3 → ∀ b, b < 3 → a ≠ b → (TX2 a).2.1 ≠ (TX2 b).2.1 := by decide +kernel
theorem tyX2_ok : ∀ k, k < 3 → parseFieldDescriptor (TX2 k).2.2.1 = some (tyX2 k) := by decide +kernel
abbrev cX2_init : ByteArray := prog_4_method_1_code
def yX2_init : MethodName := ⟨RX2, "<init>", "()V"⟩
abbrev cX2_forget : ByteArray := prog_4_method_2_code
def yX2_forget : MethodName := ⟨RX2, "forget", "()V"⟩
abbrev cX2_put : ByteArray := prog_4_method_3_code
def yX2_put : MethodName := ⟨RX2, "put", "(ILRoofMattress$Now;I)V"⟩
def RX3 : String := "RoofMattress$Now"
def TX3 : u_T := fun k => match k with
  | 0 => ("RoofMattress$Now", "weight", "I", false)
  | 1 => ("RoofMattress$Now", "driven", "I", false)
  | 2 => ("RoofMattress$Now", "seconds", "I", false)
  | 3 => ("RoofMattress$Now", "harms", "I", false)
  | 4 => ("RoofMattress$Now", "lost", "I", false)
  | 5 => ("RoofMattress$Now", "ways", "[I", true)
  | 6 => ("RoofMattress$Now", "tights", "[I", true)
  | _ => ("RoofMattress$Now", "since", "[I", true)
def tyX3 : Nat → FieldType := fun k => match k with
  | 0 => .int
  | 1 => .int
  | 2 => .int
  | 3 => .int
  | 4 => .int
  | 5 => .array .int
  | 6 => .array .int
  | _ => .array .int
abbrev wsX30 : List Cond := u_ws RX3 TX3 8
theorem nmX3 : ∀ a, a < 8 → ∀ b, b < 8 → a ≠ b → (TX3 a).2.1 ≠ (TX3 b).2.1 := by decide +kernel
theorem tyX3_ok : ∀ k, k < 8 → parseFieldDescriptor (TX3 k).2.2.1 = some (tyX3 k) := by decide +kernel
abbrev cX3_init : ByteArray := prog_5_method_1_code
def yX3_init : MethodName := ⟨RX3, "<init>", "()V"⟩
abbrev cX3_begin : ByteArray := prog_5_method_2_code
def yX3_begin : MethodName := ⟨RX3, "begin", "(LRoofMattress$Plan;)V"⟩
abbrev cX3_pull : ByteArray := prog_5_method_3_code
def yX3_pull : MethodName := ⟨RX3, "pull", "(LRoofMattress$Plan;I)V"⟩
abbrev cX3_pullAll : ByteArray := prog_5_method_4_code
def yX3_pullAll : MethodName := ⟨RX3, "pullAll", "(LRoofMattress$Plan;)V"⟩
abbrev cX3_holdFront : ByteArray := prog_5_method_5_code
def yX3_holdFront : MethodName := ⟨RX3, "holdFront", "(LRoofMattress$Plan;I)I"⟩
abbrev cX3_holdBack : ByteArray := prog_5_method_6_code
def yX3_holdBack : MethodName := ⟨RX3, "holdBack", "(LRoofMattress$Plan;I)I"⟩
abbrev cX3_mile : ByteArray := prog_5_method_7_code
def yX3_mile : MethodName := ⟨RX3, "mile", "(LRoofMattress$Plan;II)Z"⟩
abbrev cX3_tightToHold : ByteArray := prog_5_method_8_code
def yX3_tightToHold : MethodName := ⟨RX3, "tightToHold", "(LRoofMattress$Plan;III)I"⟩
abbrev cX3_save : ByteArray := prog_5_method_9_code
def yX3_save : MethodName := ⟨RX3, "save", "([II)V"⟩
abbrev cX3_load : ByteArray := prog_5_method_10_code
def yX3_load : MethodName := ⟨RX3, "load", "([II)V"⟩
def RX4 : String := "RoofMattress$Plan"
def TX4 : u_T := fun k => match k with
  | 0 => ("RoofMattress$Plan", "there", "Z", false)
  | 1 => ("RoofMattress$Plan", "weight", "I", false)
  | 2 => ("RoofMattress$Plan", "area", "I", false)
  | 3 => ("RoofMattress$Plan", "stopSeconds", "I", false)
  | 4 => ("RoofMattress$Plan", "cords", "I", false)
  | 5 => ("RoofMattress$Plan", "roads", "I", false)
  | 6 => ("RoofMattress$Plan", "ways", "[I", true)
  | 7 => ("RoofMattress$Plan", "tights", "[I", true)
  | 8 => ("RoofMattress$Plan", "gives", "[I", true)
  | 9 => ("RoofMattress$Plan", "miles", "[I", true)
  | 10 => ("RoofMattress$Plan", "paces", "[I", true)
  | _ => ("RoofMattress$Plan", "gusts", "[I", true)
def tyX4 : Nat → FieldType := fun k => match k with
  | 0 => .boolean
  | 1 => .int
  | 2 => .int
  | 3 => .int
  | 4 => .int
  | 5 => .int
  | 6 => .array .int
  | 7 => .array .int
  | 8 => .array .int
  | 9 => .array .int
  | 10 => .array .int
  | _ => .array .int
abbrev wsX40 : List Cond := u_ws RX4 TX4 12
theorem nmX4 : ∀ a, a < 12 → ∀ b, b < 12 → a ≠ b → (TX4 a).2.1 ≠ (TX4 b).2.1 := by decide +kernel
theorem tyX4_ok : ∀ k, k < 12 → parseFieldDescriptor (TX4 k).2.2.1 = some (tyX4 k) := by decide +kernel
abbrev cX4_init : ByteArray := prog_6_method_1_code
def yX4_init : MethodName := ⟨RX4, "<init>", "()V"⟩
abbrev cX4_clear : ByteArray := prog_6_method_2_code
def yX4_clear : MethodName := ⟨RX4, "clear", "()V"⟩
abbrev cX4_copy : ByteArray := prog_6_method_3_code
def yX4_copy : MethodName := ⟨RX4, "copy", "(LRoofMattress$Plan;)V"⟩
abbrev cX4_setLoad : ByteArray := prog_6_method_4_code
def yX4_setLoad : MethodName := ⟨RX4, "setLoad", "(III)V"⟩
abbrev cX4_addCord : ByteArray := prog_6_method_5_code
def yX4_addCord : MethodName := ⟨RX4, "addCord", "(III)V"⟩
abbrev cX4_addRoad : ByteArray := prog_6_method_6_code
def yX4_addRoad : MethodName := ⟨RX4, "addRoad", "(III)V"⟩
abbrev cX4_hasCord : ByteArray := prog_6_method_7_code
def yX4_hasCord : MethodName := ⟨RX4, "hasCord", "(I)Z"⟩
abbrev cX4_hasRoad : ByteArray := prog_6_method_8_code
def yX4_hasRoad : MethodName := ⟨RX4, "hasRoad", "(I)Z"⟩
abbrev cX4_allMiles : ByteArray := prog_6_method_9_code
def yX4_allMiles : MethodName := ⟨RX4, "allMiles", "()I"⟩
abbrev cX4_roadBehind : ByteArray := prog_6_method_10_code
def yX4_roadBehind : MethodName := ⟨RX4, "roadBehind", "(I)I"⟩
abbrev cX4_wayIn : ByteArray := prog_6_method_11_code
def yX4_wayIn : MethodName := ⟨RX4, "wayIn", "(II)I"⟩
abbrev cX4_pulledFront : ByteArray := prog_6_method_12_code
def yX4_pulledFront : MethodName := ⟨RX4, "pulledFront", "(I)I"⟩
abbrev cX4_pulledBack : ByteArray := prog_6_method_13_code
def yX4_pulledBack : MethodName := ⟨RX4, "pulledBack", "(I)I"⟩
def RX5 : String := "RoofMattress$Reader"
def TX5 : u_T := fun k => match k with
  | 0 => ("RoofMattress$Reader", "draft", "LRoofMattress$Plan;", true)
  | 1 => ("RoofMattress$Reader", "numbers", "[I", true)
  | 2 => ("RoofMattress$Reader", "fault", "I", false)
  | _ => ("RoofMattress$Reader", "at", "I", false)
def tyX5 : Nat → FieldType := fun k => match k with
  | 0 => .object "RoofMattress$Plan"
  | 1 => .array .int
  | 2 => .int
  | _ => .int
abbrev wsX50 : List Cond := u_ws RX5 TX5 4
theorem nmX5 : ∀ a, a < 4 → ∀ b, b < 4 → a ≠ b → (TX5 a).2.1 ≠ (TX5 b).2.1 := by decide +kernel
theorem tyX5_ok : ∀ k, k < 4 → parseFieldDescriptor (TX5 k).2.2.1 = some (tyX5 k) := by decide +kernel
abbrev cX5_init : ByteArray := prog_7_method_1_code
def yX5_init : MethodName := ⟨RX5, "<init>", "()V"⟩
abbrev cX5_readAll : ByteArray := prog_7_method_2_code
def yX5_readAll : MethodName := ⟨RX5, "readAll", "(LRoofMattress$Text;)V"⟩
abbrev cX5_readClause : ByteArray := prog_7_method_3_code
def yX5_readClause : MethodName := ⟨RX5, "readClause", "(LRoofMattress$Text;I)I"⟩
abbrev cX5_readNumber : ByteArray := prog_7_method_4_code
def yX5_readNumber : MethodName := ⟨RX5, "readNumber", "(LRoofMattress$Text;III)I"⟩
abbrev cX5_fail : ByteArray := prog_7_method_5_code
def yX5_fail : MethodName := ⟨RX5, "fail", "(II)I"⟩
abbrev cX5_wordFault : ByteArray := prog_7_method_6_code
def yX5_wordFault : MethodName := ⟨RX5, "wordFault", "(I)I"⟩
abbrev cX5_take : ByteArray := prog_7_method_7_code
def yX5_take : MethodName := ⟨RX5, "take", "(I)V"⟩
abbrev cX5_kindOf : ByteArray := prog_7_method_8_code
def yX5_kindOf : MethodName := ⟨RX5, "kindOf", "(I)I"⟩
abbrev cX5_isFigure : ByteArray := prog_7_method_9_code
def yX5_isFigure : MethodName := ⟨RX5, "isFigure", "(I)Z"⟩
def RX6 : String := "RoofMattress$Ride"
def TX6 : u_T := fun k => match k with
  | 0 => ("RoofMattress$Ride", "frontNow", "[I", true)
  | 1 => ("RoofMattress$Ride", "backNow", "[I", true)
  | 2 => ("RoofMattress$Ride", "frontPulled", "[I", true)
  | 3 => ("RoofMattress$Ride", "backPulled", "[I", true)
  | 4 => ("RoofMattress$Ride", "fresh", "LRoofMattress$Now;", true)
  | 5 => ("RoofMattress$Ride", "mile", "I", false)
  | 6 => ("RoofMattress$Ride", "pulledAt", "I", false)
  | 7 => ("RoofMattress$Ride", "pulls", "I", false)
  | 8 => ("RoofMattress$Ride", "firstPull", "I", false)
  | _ => ("RoofMattress$Ride", "seconds", "I", false)
def tyX6 : Nat → FieldType := fun k => match k with
  | 0 => .array .int
  | 1 => .array .int
  | 2 => .array .int
  | 3 => .array .int
  | 4 => .object "RoofMattress$Now"
  | 5 => .int
  | 6 => .int
  | 7 => .int
  | 8 => .int
  | _ => .int
abbrev wsX60 : List Cond := u_ws RX6 TX6 10
theorem nmX6 : ∀ a, a < 10 → ∀ b, b < 10 → a ≠ b → (TX6 a).2.1 ≠ (TX6 b).2.1 := by decide +kernel
theorem tyX6_ok : ∀ k, k < 10 → parseFieldDescriptor (TX6 k).2.2.1 = some (tyX6 k) := by decide +kernel
abbrev cX6_init : ByteArray := prog_8_method_1_code
def yX6_init : MethodName := ⟨RX6, "<init>", "()V"⟩
abbrev cX6_prepare : ByteArray := prog_8_method_2_code
def yX6_prepare : MethodName := ⟨RX6, "prepare", "(LRoofMattress$Plan;LRoofMattress$Now;I)V"⟩
abbrev cX6_goes : ByteArray := prog_8_method_3_code
def yX6_goes : MethodName := ⟨RX6, "goes", "(LRoofMattress$Plan;II)Z"⟩
abbrev cX6_goesOver : ByteArray := prog_8_method_4_code
def yX6_goesOver : MethodName := ⟨RX6, "goesOver", "(LRoofMattress$Plan;III)Z"⟩
abbrev cX6_holdsNext : ByteArray := prog_8_method_5_code
def yX6_holdsNext : MethodName := ⟨RX6, "holdsNext", "(II)Z"⟩
abbrev cX6_pullAhead : ByteArray := prog_8_method_6_code
def yX6_pullAhead : MethodName := ⟨RX6, "pullAhead", "()V"⟩
def RX7 : String := "RoofMattress$Seen"
def TX7 : u_T := fun k => match k with
  | 0 => ("RoofMattress$Seen", "cords", "[I", true)
  | 1 => ("RoofMattress$Seen", "paces", "[I", true)
  | 2 => ("RoofMattress$Seen", "gusts", "[I", true)
  | 3 => ("RoofMattress$Seen", "held", "[Z", true)
  | _ => ("RoofMattress$Seen", "count", "I", false)
def tyX7 : Nat → FieldType := fun k => match k with
  | 0 => .array .int
  | 1 => .array .int
  | 2 => .array .int
  | 3 => .array .boolean
  | _ => .int
abbrev wsX70 : List Cond := u_ws RX7 TX7 5
theorem nmX7 : ∀ a, a < 5 → ∀ b, b < 5 → a ≠ b → (TX7 a).2.1 ≠ (TX7 b).2.1 := by decide +kernel
theorem tyX7_ok : ∀ k, k < 5 → parseFieldDescriptor (TX7 k).2.2.1 = some (tyX7 k) := by decide +kernel
abbrev cX7_init : ByteArray := prog_9_method_1_code
def yX7_init : MethodName := ⟨RX7, "<init>", "()V"⟩
abbrev cX7_add : ByteArray := prog_9_method_2_code
def yX7_add : MethodName := ⟨RX7, "add", "(IIIZ)Z"⟩
abbrev cX7_leastTight : ByteArray := prog_9_method_3_code
def yX7_leastTight : MethodName := ⟨RX7, "leastTight", "(LRoofMattress$Plan;LRoofMattress$Now;I)I"⟩
abbrev cX7_mostTight : ByteArray := prog_9_method_4_code
def yX7_mostTight : MethodName := ⟨RX7, "mostTight", "(LRoofMattress$Plan;LRoofMattress$Now;I)I"⟩
def RX8 : String := "RoofMattress$Text"
def TX8 : u_T := fun k => match k with
  | 0 => ("RoofMattress$Text", "letters", "[I", true)
  | _ => ("RoofMattress$Text", "count", "I", false)
def tyX8 : Nat → FieldType := fun k => match k with
  | 0 => .array .int
  | _ => .int
abbrev wsX80 : List Cond := u_ws RX8 TX8 2
theorem nmX8 : ∀ a, a < 2 → ∀ b, b < 2 → a ≠ b → (TX8 a).2.1 ≠ (TX8 b).2.1 := by decide +kernel
theorem tyX8_ok : ∀ k, k < 2 → parseFieldDescriptor (TX8 k).2.2.1 = some (tyX8 k) := by decide +kernel
abbrev cX8_init : ByteArray := prog_10_method_1_code
def yX8_init : MethodName := ⟨RX8, "<init>", "()V"⟩
abbrev cX8_add : ByteArray := prog_10_method_2_code
def yX8_add : MethodName := ⟨RX8, "add", "(I)Z"⟩
abbrev cX8_letterAt : ByteArray := prog_10_method_3_code
def yX8_letterAt : MethodName := ⟨RX8, "letterAt", "(I)I"⟩
abbrev cX8_skipBlanks : ByteArray := prog_10_method_4_code
def yX8_skipBlanks : MethodName := ⟨RX8, "skipBlanks", "(I)I"⟩
def RX9 : String := "RoofMattress"
def TX9 : u_T := fun k => match k with
  | 0 => ("RoofMattress", "text", "LRoofMattress$Text;", true)
  | 1 => ("RoofMattress", "reader", "LRoofMattress$Reader;", true)
  | 2 => ("RoofMattress", "plan", "LRoofMattress$Plan;", true)
  | 3 => ("RoofMattress", "now", "LRoofMattress$Now;", true)
  | 4 => ("RoofMattress", "deeds", "LRoofMattress$Deeds;", true)
  | 5 => ("RoofMattress", "images", "LRoofMattress$Images;", true)
  | 6 => ("RoofMattress", "seen", "LRoofMattress$Seen;", true)
  | 7 => ("RoofMattress", "book", "LRoofMattress$Book;", true)
  | 8 => ("RoofMattress", "ride", "LRoofMattress$Ride;", true)
  | 9 => ("RoofMattress", "faultAt", "I", false)
  | _ => ("RoofMattress", "drawn", "I", false)
def tyX9 : Nat → FieldType := fun k => match k with
  | 0 => .object "RoofMattress$Text"
  | 1 => .object "RoofMattress$Reader"
  | 2 => .object "RoofMattress$Plan"
  | 3 => .object "RoofMattress$Now"
  | 4 => .object "RoofMattress$Deeds"
  | 5 => .object "RoofMattress$Images"
  | 6 => .object "RoofMattress$Seen"
  | 7 => .object "RoofMattress$Book"
  | 8 => .object "RoofMattress$Ride"
  | 9 => .int
  | _ => .int
abbrev wsX90 : List Cond := u_ws RX9 TX9 11
theorem nmX9 : ∀ a, a < 11 → ∀ b, b < 11 → a ≠ b → (TX9 a).2.1 ≠ (TX9 b).2.1 := by decide +kernel
theorem tyX9_ok : ∀ k, k < 11 → parseFieldDescriptor (TX9 k).2.2.1 = some (tyX9 k) := by decide +kernel
abbrev cX9_init : ByteArray := prog_1_method_1_code
def yX9_init : MethodName := ⟨RX9, "<init>", "()V"⟩
abbrev cX9_feed : ByteArray := prog_1_method_2_code
def yX9_feed : MethodName := ⟨RX9, "feed", "(I)I"⟩
abbrev cX9_trip : ByteArray := prog_1_method_3_code
def yX9_trip : MethodName := ⟨RX9, "trip", "()I"⟩
abbrev cX9_fault : ByteArray := prog_1_method_4_code
def yX9_fault : MethodName := ⟨RX9, "fault", "()I"⟩
abbrev cX9_told : ByteArray := prog_1_method_5_code
def yX9_told : MethodName := ⟨RX9, "told", "(I)I"⟩
abbrev cX9_cord : ByteArray := prog_1_method_6_code
def yX9_cord : MethodName := ⟨RX9, "cord", "(II)I"⟩
abbrev cX9_road : ByteArray := prog_1_method_7_code
def yX9_road : MethodName := ⟨RX9, "road", "(II)I"⟩
abbrev cX9_lift : ByteArray := prog_1_method_8_code
def yX9_lift : MethodName := ⟨RX9, "lift", "(III)I"⟩
abbrev cX9_drive : ByteArray := prog_1_method_9_code
def yX9_drive : MethodName := ⟨RX9, "drive", "(II)I"⟩
abbrev cX9_stop : ByteArray := prog_1_method_10_code
def yX9_stop : MethodName := ⟨RX9, "stop", "()I"⟩
abbrev cX9_rain : ByteArray := prog_1_method_11_code
def yX9_rain : MethodName := ⟨RX9, "rain", "(I)I"⟩
abbrev cX9_runs : ByteArray := prog_1_method_12_code
def yX9_runs : MethodName := ⟨RX9, "runs", "(II)I"⟩
abbrev cX9_pick : ByteArray := prog_1_method_13_code
def yX9_pick : MethodName := ⟨RX9, "pick", "()I"⟩
abbrev cX9_drift : ByteArray := prog_1_method_14_code
def yX9_drift : MethodName := ⟨RX9, "drift", "(II)I"⟩
abbrev cX9_undo : ByteArray := prog_1_method_15_code
def yX9_undo : MethodName := ⟨RX9, "undo", "(I)I"⟩
abbrev cX9_highest : ByteArray := prog_1_method_16_code
def yX9_highest : MethodName := ⟨RX9, "highest", "(I)I"⟩
abbrev cX9_slack : ByteArray := prog_1_method_17_code
def yX9_slack : MethodName := ⟨RX9, "slack", "(II)I"⟩
abbrev cX9_far : ByteArray := prog_1_method_18_code
def yX9_far : MethodName := ⟨RX9, "far", "(II)I"⟩
abbrev cX9_stops : ByteArray := prog_1_method_19_code
def yX9_stops : MethodName := ⟨RX9, "stops", "(II)I"⟩
abbrev cX9_soonest : ByteArray := prog_1_method_20_code
def yX9_soonest : MethodName := ⟨RX9, "soonest", "(I)I"⟩
abbrev cX9_where : ByteArray := prog_1_method_21_code
def yX9_where : MethodName := ⟨RX9, "where", "(II)I"⟩
abbrev cX9_hand : ByteArray := prog_1_method_22_code
def yX9_hand : MethodName := ⟨RX9, "hand", "(II)I"⟩
abbrev cX9_van : ByteArray := prog_1_method_23_code
def yX9_van : MethodName := ⟨RX9, "van", "(III)I"⟩
abbrev cX9_knots : ByteArray := prog_1_method_24_code
def yX9_knots : MethodName := ⟨RX9, "knots", "(II)I"⟩
abbrev cX9_see : ByteArray := prog_1_method_25_code
def yX9_see : MethodName := ⟨RX9, "see", "(IIIZ)I"⟩
abbrev cX9_was : ByteArray := prog_1_method_26_code
def yX9_was : MethodName := ⟨RX9, "was", "(II)I"⟩
abbrev cX9_tries : ByteArray := prog_1_method_27_code
def yX9_tries : MethodName := ⟨RX9, "tries", "(II)I"⟩
abbrev cX9_write : ByteArray := prog_1_method_28_code
def yX9_write : MethodName := ⟨RX9, "write", "(II)I"⟩
abbrev cX9_judge : ByteArray := prog_1_method_29_code
def yX9_judge : MethodName := ⟨RX9, "judge", "()I"⟩
abbrev cX9_tear : ByteArray := prog_1_method_30_code
def yX9_tear : MethodName := ⟨RX9, "tear", "()I"⟩
abbrev cX9_seed : ByteArray := prog_1_method_31_code
def yX9_seed : MethodName := ⟨RX9, "seed", "(I)I"⟩
abbrev cX9_keep : ByteArray := prog_1_method_32_code
def yX9_keep : MethodName := ⟨RX9, "keep", "(I)I"⟩
abbrev cX9_goBack : ByteArray := prog_1_method_33_code
def yX9_goBack : MethodName := ⟨RX9, "goBack", "(I)I"⟩
abbrev cX9_onTheRoof : ByteArray := prog_1_method_34_code
def yX9_onTheRoof : MethodName := ⟨RX9, "onTheRoof", "()Z"⟩
abbrev cX9_milesLeft : ByteArray := prog_1_method_35_code
def yX9_milesLeft : MethodName := ⟨RX9, "milesLeft", "()I"⟩
abbrev cX9_travel : ByteArray := prog_1_method_36_code
def yX9_travel : MethodName := ⟨RX9, "travel", "(IIZ)I"⟩
abbrev cX9_nextDraw : ByteArray := prog_1_method_37_code
def yX9_nextDraw : MethodName := ⟨RX9, "nextDraw", "()I"⟩
abbrev cX9_climb : ByteArray := prog_1_method_38_code
def yX9_climb : MethodName := ⟨RX9, "climb", "(IIII)I"⟩
abbrev cX9_within : ByteArray := prog_1_method_39_code
def yX9_within : MethodName := ⟨RX9, "within", "(III)Z"⟩
abbrev cX9_isPace : ByteArray := prog_1_method_40_code
def yX9_isPace : MethodName := ⟨RX9, "isPace", "(I)Z"⟩
abbrev cX9_isGust : ByteArray := prog_1_method_41_code
def yX9_isGust : MethodName := ⟨RX9, "isGust", "(I)Z"⟩
abbrev cX9_liftAll : ByteArray := prog_1_method_42_code
def yX9_liftAll : MethodName := ⟨RX9, "liftAll", "(III)I"⟩
abbrev cX9_liftFront : ByteArray := prog_1_method_43_code
def yX9_liftFront : MethodName := ⟨RX9, "liftFront", "(III)I"⟩
abbrev cX9_liftBack : ByteArray := prog_1_method_44_code
def yX9_liftBack : MethodName := ⟨RX9, "liftBack", "(III)I"⟩
abbrev cX9_cordFront : ByteArray := prog_1_method_45_code
def yX9_cordFront : MethodName := ⟨RX9, "cordFront", "(II)I"⟩
abbrev cX9_cordBack : ByteArray := prog_1_method_46_code
def yX9_cordBack : MethodName := ⟨RX9, "cordBack", "(II)I"⟩
abbrev cX9_tightBehind : ByteArray := prog_1_method_47_code
def yX9_tightBehind : MethodName := ⟨RX9, "tightBehind", "(IIII)I"⟩
def RX10 : String := "RoofMattressModel"
def TX10 : u_T := fun k => match k with
  | 0 => ("RoofMattressModel", "letters", "I", false)
  | 1 => ("RoofMattressModel", "text", "[I", true)
  | 2 => ("RoofMattressModel", "position", "I", false)
  | 3 => ("RoofMattressModel", "tokenAt", "I", false)
  | 4 => ("RoofMattressModel", "token", "I", false)
  | 5 => ("RoofMattressModel", "number", "I", false)
  | 6 => ("RoofMattressModel", "figures", "I", false)
  | 7 => ("RoofMattressModel", "faultAt", "I", false)
  | 8 => ("RoofMattressModel", "faultIs", "I", false)
  | 9 => ("RoofMattressModel", "hasLoad", "Z", false)
  | 10 => ("RoofMattressModel", "readCords", "I", false)
  | 11 => ("RoofMattressModel", "readRoads", "I", false)
  | 12 => ("RoofMattressModel", "readLoad", "[I", true)
  | 13 => ("RoofMattressModel", "readCord", "[I", true)
  | 14 => ("RoofMattressModel", "readRoad", "[I", true)
  | 15 => ("RoofMattressModel", "isTrip", "Z", false)
  | 16 => ("RoofMattressModel", "cords", "I", false)
  | 17 => ("RoofMattressModel", "roads", "I", false)
  | 18 => ("RoofMattressModel", "load", "[I", true)
  | 19 => ("RoofMattressModel", "cord", "[I", true)
  | 20 => ("RoofMattressModel", "road", "[I", true)
  | 21 => ("RoofMattressModel", "now", "[I", true)
  | 22 => ("RoofMattressModel", "tried", "[I", true)
  | 23 => ("RoofMattressModel", "backOf", "[I", true)
  | 24 => ("RoofMattressModel", "backs", "I", false)
  | 25 => ("RoofMattressModel", "image", "[I", true)
  | 26 => ("RoofMattressModel", "imageSeed", "[I", true)
  | 27 => ("RoofMattressModel", "isKept", "[Z", true)
  | 28 => ("RoofMattressModel", "seed", "I", false)
  | 29 => ("RoofMattressModel", "seen", "I", false)
  | 30 => ("RoofMattressModel", "sight", "[I", true)
  | 31 => ("RoofMattressModel", "entries", "I", false)
  | 32 => ("RoofMattressModel", "entry", "[I", true)
  | 33 => ("RoofMattressModel", "could", "[Z", true)
  | 34 => ("RoofMattressModel", "stopsMany", "I", false)
  | _ => ("RoofMattressModel", "stopsFirst", "I", false)
def tyX10 : Nat → FieldType := fun k => match k with
  | 0 => .int
  | 1 => .array .int
  | 2 => .int
  | 3 => .int
  | 4 => .int
  | 5 => .int
  | 6 => .int
  | 7 => .int
  | 8 => .int
  | 9 => .boolean
  | 10 => .int
  | 11 => .int
  | 12 => .array .int
  | 13 => .array .int
  | 14 => .array .int
  | 15 => .boolean
  | 16 => .int
  | 17 => .int
  | 18 => .array .int
  | 19 => .array .int
  | 20 => .array .int
  | 21 => .array .int
  | 22 => .array .int
  | 23 => .array .int
  | 24 => .int
  | 25 => .array .int
  | 26 => .array .int
  | 27 => .array .boolean
  | 28 => .int
  | 29 => .int
  | 30 => .array .int
  | 31 => .int
  | 32 => .array .int
  | 33 => .array .boolean
  | 34 => .int
  | _ => .int
abbrev wsX100 : List Cond := u_ws RX10 TX10 36
theorem nmX10 : ∀ a, a < 36 → ∀ b, b < 36 → a ≠ b → (TX10 a).2.1 ≠ (TX10 b).2.1 := by decide +kernel
theorem tyX10_ok : ∀ k, k < 36 → parseFieldDescriptor (TX10 k).2.2.1 = some (tyX10 k) := by decide +kernel
abbrev cX10_init : ByteArray := prog_12_method_1_code
def yX10_init : MethodName := ⟨RX10, "<init>", "()V"⟩
abbrev cX10_in : ByteArray := prog_12_method_2_code
def yX10_in : MethodName := ⟨RX10, "in", "(III)Z"⟩
abbrev cX10_isCord : ByteArray := prog_12_method_3_code
def yX10_isCord : MethodName := ⟨RX10, "isCord", "(I)Z"⟩
abbrev cX10_feed : ByteArray := prog_12_method_4_code
def yX10_feed : MethodName := ⟨RX10, "feed", "(I)I"⟩
abbrev cX10_nextToken : ByteArray := prog_12_method_5_code
def yX10_nextToken : MethodName := ⟨RX10, "nextToken", "()V"⟩
abbrev cX10_fails : ByteArray := prog_12_method_6_code
def yX10_fails : MethodName := ⟨RX10, "fails", "(I)Z"⟩
abbrev cX10_isNumber : ByteArray := prog_12_method_7_code
def yX10_isNumber : MethodName := ⟨RX10, "isNumber", "(II)Z"⟩
abbrev cX10_areThree : ByteArray := prog_12_method_8_code
def yX10_areThree : MethodName := ⟨RX10, "areThree", "([IIIIIIII)Z"⟩
abbrev cX10_isClause : ByteArray := prog_12_method_9_code
def yX10_isClause : MethodName := ⟨RX10, "isClause", "()Z"⟩
abbrev cX10_isRead : ByteArray := prog_12_method_10_code
def yX10_isRead : MethodName := ⟨RX10, "isRead", "()Z"⟩
abbrev cX10_bring : ByteArray := prog_12_method_11_code
def yX10_bring : MethodName := ⟨RX10, "bring", "([II[III)V"⟩
abbrev cX10_pull : ByteArray := prog_12_method_12_code
def yX10_pull : MethodName := ⟨RX10, "pull", "([II)V"⟩
abbrev cX10_pullAll : ByteArray := prog_12_method_13_code
def yX10_pullAll : MethodName := ⟨RX10, "pullAll", "([I)V"⟩
abbrev cX10_allMiles : ByteArray := prog_12_method_14_code
def yX10_allMiles : MethodName := ⟨RX10, "allMiles", "()I"⟩
abbrev cX10_trip : ByteArray := prog_12_method_15_code
def yX10_trip : MethodName := ⟨RX10, "trip", "()I"⟩
abbrev cX10_fault : ByteArray := prog_12_method_16_code
def yX10_fault : MethodName := ⟨RX10, "fault", "()I"⟩
abbrev cX10_roadOf : ByteArray := prog_12_method_17_code
def yX10_roadOf : MethodName := ⟨RX10, "roadOf", "(I)I"⟩
abbrev cX10_told : ByteArray := prog_12_method_18_code
def yX10_told : MethodName := ⟨RX10, "told", "(I)I"⟩
abbrev cX10_cord : ByteArray := prog_12_method_19_code
def yX10_cord : MethodName := ⟨RX10, "cord", "(II)I"⟩
abbrev cX10_road : ByteArray := prog_12_method_20_code
def yX10_road : MethodName := ⟨RX10, "road", "(II)I"⟩
abbrev cX10_liftBy : ByteArray := prog_12_method_21_code
def yX10_liftBy : MethodName := ⟨RX10, "liftBy", "(II)I"⟩
abbrev cX10_frontHold : ByteArray := prog_12_method_22_code
def yX10_frontHold : MethodName := ⟨RX10, "frontHold", "([I)I"⟩
abbrev cX10_backHold : ByteArray := prog_12_method_23_code
def yX10_backHold : MethodName := ⟨RX10, "backHold", "([I)I"⟩
abbrev cX10_holdsBy : ByteArray := prog_12_method_24_code
def yX10_holdsBy : MethodName := ⟨RX10, "holdsBy", "([IIII)Z"⟩
abbrev cX10_holds : ByteArray := prog_12_method_25_code
def yX10_holds : MethodName := ⟨RX10, "holds", "([III)Z"⟩
abbrev cX10_lift : ByteArray := prog_12_method_26_code
def yX10_lift : MethodName := ⟨RX10, "lift", "(III)I"⟩
abbrev cX10_note : ByteArray := prog_12_method_27_code
def yX10_note : MethodName := ⟨RX10, "note", "()V"⟩
abbrev cX10_slacken : ByteArray := prog_12_method_28_code
def yX10_slacken : MethodName := ⟨RX10, "slacken", "([I)V"⟩
abbrev cX10_goOn : ByteArray := prog_12_method_29_code
def yX10_goOn : MethodName := ⟨RX10, "goOn", "([III)Z"⟩
abbrev cX10_canGo : ByteArray := prog_12_method_30_code
def yX10_canGo : MethodName := ⟨RX10, "canGo", "()Z"⟩
abbrev cX10_goMiles : ByteArray := prog_12_method_31_code
def yX10_goMiles : MethodName := ⟨RX10, "goMiles", "(IIZ)I"⟩
abbrev cX10_drive : ByteArray := prog_12_method_32_code
def yX10_drive : MethodName := ⟨RX10, "drive", "(II)I"⟩
abbrev cX10_stop : ByteArray := prog_12_method_33_code
def yX10_stop : MethodName := ⟨RX10, "stop", "()I"⟩
abbrev cX10_rain : ByteArray := prog_12_method_34_code
def yX10_rain : MethodName := ⟨RX10, "rain", "(I)I"⟩
abbrev cX10_runs : ByteArray := prog_12_method_35_code
def yX10_runs : MethodName := ⟨RX10, "runs", "(II)I"⟩
abbrev cX10_pick : ByteArray := prog_12_method_36_code
def yX10_pick : MethodName := ⟨RX10, "pick", "()I"⟩
abbrev cX10_draw : ByteArray := prog_12_method_37_code
def yX10_draw : MethodName := ⟨RX10, "draw", "(I)I"⟩
abbrev cX10_drift : ByteArray := prog_12_method_38_code
def yX10_drift : MethodName := ⟨RX10, "drift", "(II)I"⟩
abbrev cX10_undo : ByteArray := prog_12_method_39_code
def yX10_undo : MethodName := ⟨RX10, "undo", "(I)I"⟩
abbrev cX10_highestBy : ByteArray := prog_12_method_40_code
def yX10_highestBy : MethodName := ⟨RX10, "highestBy", "([III)I"⟩
abbrev cX10_highest : ByteArray := prog_12_method_41_code
def yX10_highest : MethodName := ⟨RX10, "highest", "(I)I"⟩
abbrev cX10_begin : ByteArray := prog_12_method_42_code
def yX10_begin : MethodName := ⟨RX10, "begin", "()V"⟩
abbrev cX10_slack : ByteArray := prog_12_method_43_code
def yX10_slack : MethodName := ⟨RX10, "slack", "(II)I"⟩
abbrev cX10_far : ByteArray := prog_12_method_44_code
def yX10_far : MethodName := ⟨RX10, "far", "(II)I"⟩
abbrev cX10_layStops : ByteArray := prog_12_method_45_code
def yX10_layStops : MethodName := ⟨RX10, "layStops", "(I)Z"⟩
abbrev cX10_stops : ByteArray := prog_12_method_46_code
def yX10_stops : MethodName := ⟨RX10, "stops", "(II)I"⟩
abbrev cX10_soonest : ByteArray := prog_12_method_47_code
def yX10_soonest : MethodName := ⟨RX10, "soonest", "(I)I"⟩
abbrev cX10_layWays : ByteArray := prog_12_method_48_code
def yX10_layWays : MethodName := ⟨RX10, "layWays", "(I)V"⟩
abbrev cX10_where : ByteArray := prog_12_method_49_code
def yX10_where : MethodName := ⟨RX10, "where", "(II)I"⟩
abbrev cX10_hand : ByteArray := prog_12_method_50_code
def yX10_hand : MethodName := ⟨RX10, "hand", "(II)I"⟩
abbrev cX10_van : ByteArray := prog_12_method_51_code
def yX10_van : MethodName := ⟨RX10, "van", "(III)I"⟩
abbrev cX10_knots : ByteArray := prog_12_method_52_code
def yX10_knots : MethodName := ⟨RX10, "knots", "(II)I"⟩
abbrev cX10_see : ByteArray := prog_12_method_53_code
def yX10_see : MethodName := ⟨RX10, "see", "(IIIZ)I"⟩
abbrev cX10_wouldHold : ByteArray := prog_12_method_54_code
def yX10_wouldHold : MethodName := ⟨RX10, "wouldHold", "(IIII)Z"⟩
abbrev cX10_couldBe : ByteArray := prog_12_method_55_code
def yX10_couldBe : MethodName := ⟨RX10, "couldBe", "(II)Z"⟩
abbrev cX10_was : ByteArray := prog_12_method_56_code
def yX10_was : MethodName := ⟨RX10, "was", "(II)I"⟩
abbrev cX10_tries : ByteArray := prog_12_method_57_code
def yX10_tries : MethodName := ⟨RX10, "tries", "(II)I"⟩
abbrev cX10_write : ByteArray := prog_12_method_58_code
def yX10_write : MethodName := ⟨RX10, "write", "(II)I"⟩
abbrev cX10_judge : ByteArray := prog_12_method_59_code
def yX10_judge : MethodName := ⟨RX10, "judge", "()I"⟩
abbrev cX10_tear : ByteArray := prog_12_method_60_code
def yX10_tear : MethodName := ⟨RX10, "tear", "()I"⟩
abbrev cX10_seed : ByteArray := prog_12_method_61_code
def yX10_seed : MethodName := ⟨RX10, "seed", "(I)I"⟩
abbrev cX10_keep : ByteArray := prog_12_method_62_code
def yX10_keep : MethodName := ⟨RX10, "keep", "(I)I"⟩
abbrev cX10_goBack : ByteArray := prog_12_method_63_code
def yX10_goBack : MethodName := ⟨RX10, "goBack", "(I)I"⟩
def RJ9 : String := "java/lang/Math"
def TJ9 : u_T := fun k => match k with
  | _ => ("", "", "", false)
def tyJ9 : Nat → FieldType := fun k => match k with
  | _ => .int
abbrev wsJ90 : List Cond := u_ws RJ9 TJ9 0
theorem nmJ9 : ∀ a, a < 0 → ∀ b, b < 0 → a ≠ b → (TJ9 a).2.1 ≠ (TJ9 b).2.1 := by decide +kernel
theorem tyJ9_ok : ∀ k, k < 0 → parseFieldDescriptor (TJ9 k).2.2.1 = some (tyJ9 k) := by decide +kernel
abbrev cJ9_floorMod_7cf53 : ByteArray := prog_13_method_50_code
def yJ9_floorMod_7cf53 : MethodName := ⟨RJ9, "floorMod", "(II)I"⟩
abbrev cJ9_max_7cf53 : ByteArray := prog_13_method_65_code
def yJ9_max_7cf53 : MethodName := ⟨RJ9, "max", "(II)I"⟩
abbrev cJ9_min_7cf53 : ByteArray := prog_13_method_69_code
def yJ9_min_7cf53 : MethodName := ⟨RJ9, "min", "(II)I"⟩
def RJ10 : String := "java/lang/System"
def TJ10 : u_T := fun k => match k with
  | _ => ("", "", "", false)
def tyJ10 : Nat → FieldType := fun k => match k with
  | _ => .int
abbrev wsJ100 : List Cond := u_ws RJ10 TJ10 0
theorem nmJ10 : ∀ a, a < 0 → ∀ b, b < 0 → a ≠ b → (TJ10 a).2.1 ≠ (TJ10 b).2.1 := by decide +kernel
theorem tyJ10_ok : ∀ k, k < 0 → parseFieldDescriptor (TJ10 k).2.2.1 = some (tyJ10 k) := by decide +kernel
def RL : String := "RoofMattressLaw"
abbrev cL_law : ByteArray := code
def yL_law : MethodName := ⟨RL, "law", "([I)Z"⟩
end
section
/-! The abstract machine: ints are whole numbers, references are numbers of cells, the heap is a table of ints of a fixed shape. -/
abbrev am_Mem : Type := Nat → Nat → Int
abbrev am_AV : Type := Int ⊕ (Nat ⊕ Int)
abbrev am_AE : Type := Instr × Nat × List Nat × Int × List Nat
abbrev am_SC : Type := (Bool × Nat) ⊕ (Nat × List Nat)
abbrev am_Lc : Type := List (Nat × am_AV)
abbrev am_Po : Type := Int → am_Mem → Prop
abbrev am_Ct : Type := Nat → List am_AV → am_Mem → am_Po → Prop
def am_inR (z : Int) : Prop := -2147483648 ≤ z ∧ z ≤ 2147483647
def am_inL (z : Int) : Prop := -9223372036854775808 ≤ z ∧ z ≤ 9223372036854775807
def am_okv : am_AV → Prop
  | .inl z => am_inR z
  | .inr (.inl _) => True
  | .inr (.inr z) => am_inL z
def am_okm (mem : am_Mem) : Prop := ∀ k j, am_inR (mem k j)
def am_oks (st : List am_AV) : Prop := ∀ v ∈ st, am_okv v
def am_okl (ls : am_Lc) : Prop := ∀ q ∈ ls, am_okv q.2
def am_vl (ad : Nat → Nat) : am_AV → Value
  | .inl z => .int (Int32.ofInt z)
  | .inr (.inl k) => .ref (ad k)
  | .inr (.inr z) => .long (Int64.ofInt z)
def am_up (mem : am_Mem) (a j : Nat) (z : Int) : am_Mem := fun k i => if k = a ∧ i = j then z else mem k i
def am_cp (mem : am_Mem) (a sp b dp n : Nat) : am_Mem := fun k i => if k = b ∧ dp ≤ i ∧ i < dp + n then mem a (sp + (i - dp)) else mem k i
def am_isl : am_AV → Bool
  | .inr (.inr _) => true
  | _ => false
def am_lget : am_Lc → Nat → Option am_AV
  | [], _ => none
  | q :: r, i => bif Nat.beq i q.1 then some q.2 else am_lget r i
def am_ldel (i : Nat) : am_Lc → am_Lc
  | [] => []
  | q :: r => bif (Nat.beq q.1 i || (Nat.beq (q.1 + 1) i && am_isl q.2)) then am_ldel i r else q :: am_ldel i r
def am_lde2 (i : Nat) : am_Lc → am_Lc
  | [] => []
  | q :: r => bif (Nat.beq q.1 i || (Nat.beq q.1 (i + 1) || (Nat.beq (q.1 + 1) i && am_isl q.2))) then am_lde2 i r else q :: am_lde2 i r
def am_kp (ls : am_Lc) : List Nat → Option (List am_AV)
  | [] => some []
  | i :: r => match am_lget ls i with
    | none => none
    | some v => match am_kp ls r with
      | none => none
      | some vs => some (v :: vs)
def am_cget : List (Nat × List Nat) → Nat → Option (List Nat)
  | [], _ => none
  | q :: r, i => bif Nat.beq i q.1 then some q.2 else am_cget r i
def am_take : Nat → List am_AV → List am_AV → Option (List am_AV × List am_AV)
  | 0, st, acc => some (acc, st)
  | n + 1, v :: st, acc => am_take n st (v :: acc)
  | _ + 1, [], _ => none
def am_o1 (o : Option am_AV) (f : Int → Prop) : Prop := match o with
  | some (.inl z) => f z
  | _ => False
def am_oa (o : Option am_AV) (f : Nat → Prop) : Prop := match o with
  | some (.inr (.inl z)) => f z
  | _ => False
def am_ol (o : Option am_AV) (f : Int → Prop) : Prop := match o with
  | some (.inr (.inr z)) => f z
  | _ => False
def am_s1 (st : List am_AV) (f : Int → List am_AV → Prop) : Prop := match st with
  | .inl x :: r => f x r
  | _ => False
def am_sr (st : List am_AV) (f : Nat → List am_AV → Prop) : Prop := match st with
  | .inr (.inl x) :: r => f x r
  | _ => False
def am_sl (st : List am_AV) (f : Int → List am_AV → Prop) : Prop := match st with
  | .inr (.inr x) :: r => f x r
  | _ => False
def am_br (c : Jvm.ClassFile.Cond) (x y : Int) (kt kf : Prop) : Prop := match c with
  | .eq => (x = y → kt) ∧ (¬ x = y → kf)
  | .ne => (¬ x = y → kt) ∧ (x = y → kf)
  | .lt => (x < y → kt) ∧ (y ≤ x → kf)
  | .ge => (y ≤ x → kt) ∧ (x < y → kf)
  | .gt => (y < x → kt) ∧ (x ≤ y → kf)
  | .le => (x ≤ y → kt) ∧ (y < x → kf)
def am_tsw (x : Int) (d : Prop) (k : Nat → Prop) : Int → List Nat → Prop
  | lo, [] => (lo ≤ x → d)
  | lo, t :: r => (x = lo → k t) ∧ am_tsw x d k (lo + 1) r
def am_lsw (x : Int) (d : Prop) (k : Nat → Prop) : List (Int × Int) → List Nat → Prop
  | p :: ps, t :: r => (x = p.1 → k t) ∧ (¬ x = p.1 → am_lsw x d k ps r)
  | _, _ => d
def am_iso (SH : Nat → Option am_SC) (o ci : Nat) : Bool := match SH o with
  | some (.inr q) => Nat.beq q.1 ci
  | _ => false
/-- one instruction: what must hold, so that what follows is reached -/
def am_stp (SH : Nat → Option am_SC) (rom : Nat → Option (Nat × (Nat → Int))) (M : am_Ct) (rb : Bool) (e : am_AE) (ls : am_Lc) (st : List am_AV) (mem : am_Mem) (k : Nat → am_Lc → List am_AV → am_Mem → Prop) (Q : am_Po) : Prop :=
  match e.1 with
  | .iconst n => k e.2.1 ls (.inl n :: st) mem
  | .bipush n => k e.2.1 ls (.inl n :: st) mem
  | .sipush n => k e.2.1 ls (.inl n :: st) mem
  | .ldc _ => k e.2.1 ls (.inl e.2.2.2.1 :: st) mem
  | .ldc_w _ => k e.2.1 ls (.inl e.2.2.2.1 :: st) mem
  | .ldc2_w _ => k e.2.1 ls (.inr (.inr e.2.2.2.1) :: st) mem
  | .iload i => am_o1 (am_lget ls i) fun z => k e.2.1 ls (.inl z :: st) mem
  | .iload_n i => am_o1 (am_lget ls i.val) fun z => k e.2.1 ls (.inl z :: st) mem
  | .aload i => am_oa (am_lget ls i) fun z => k e.2.1 ls (.inr (.inl z) :: st) mem
  | .aload_n i => am_oa (am_lget ls i.val) fun z => k e.2.1 ls (.inr (.inl z) :: st) mem
  | .lload_n i => am_ol (am_lget ls i.val) fun z => k e.2.1 ls (.inr (.inr z) :: st) mem
  | .istore i => am_s1 st fun x st => k e.2.1 ((i, .inl x) :: am_ldel i ls) st mem
  | .istore_n i => am_s1 st fun x st => k e.2.1 ((i.val, .inl x) :: am_ldel i.val ls) st mem
  | .astore_n i => am_sr st fun x st => k e.2.1 ((i.val, .inr (.inl x)) :: am_ldel i.val ls) st mem
  | .lstore_n i => am_sl st fun x st => k e.2.1 ((i.val, .inr (.inr x)) :: am_lde2 i.val ls) st mem
  | .iinc i n => am_o1 (am_lget ls i) fun z => (-2147483648 ≤ z + n ∧ z + n ≤ 2147483647) ∧ k e.2.1 ((i, .inl (z + n)) :: am_ldel i ls) st mem
  | .iadd => am_s1 st fun y st => am_s1 st fun x st => (-2147483648 ≤ x + y ∧ x + y ≤ 2147483647) ∧ k e.2.1 ls (.inl (x + y) :: st) mem
  | .isub => am_s1 st fun y st => am_s1 st fun x st => (-2147483648 ≤ x - y ∧ x - y ≤ 2147483647) ∧ k e.2.1 ls (.inl (x - y) :: st) mem
  | .imul => am_s1 st fun y st => am_s1 st fun x st => (-2147483648 ≤ x * y ∧ x * y ≤ 2147483647) ∧ k e.2.1 ls (.inl (x * y) :: st) mem
  | .idiv => am_s1 st fun y st => am_s1 st fun x st => (0 ≤ x ∧ 0 < y) ∧ k e.2.1 ls (.inl (x / y) :: st) mem
  | .irem => am_s1 st fun y st => am_s1 st fun x st => 0 < y ∧ (0 ≤ x → k e.2.1 ls (.inl (x % y) :: st) mem) ∧ (x < 0 → k e.2.1 ls (.inl (-((-x) % y)) :: st) mem)
  | .iand => am_s1 st fun y st => am_s1 st fun x st => (y = 3 ∨ y = 31) ∧ k e.2.1 ls (.inl (x % (y + 1)) :: st) mem
  | .ixor => am_s1 st fun y st => am_s1 st fun x st => ∀ z : Int, (0 ≤ z ↔ (0 ≤ x ↔ 0 ≤ y)) → k e.2.1 ls (.inl z :: st) mem
  | .ishl => am_s1 st fun y st => am_s1 st fun x st => (x = 1 ∧ 0 ≤ y ∧ y ≤ 30) ∧ k e.2.1 ls (.inl (2 ^ y.toNat) :: st) mem
  | .ishr => am_s1 st fun y st => am_s1 st fun x st => (0 ≤ x ∧ 0 ≤ y ∧ y ≤ 31) ∧ k e.2.1 ls (.inl (x / 2 ^ y.toNat) :: st) mem
  | .i2l => am_s1 st fun x st => k e.2.1 ls (.inr (.inr x) :: st) mem
  | .l2i => am_sl st fun x st => (-2147483648 ≤ x ∧ x ≤ 2147483647) ∧ k e.2.1 ls (.inl x :: st) mem
  | .ladd => am_sl st fun y st => am_sl st fun x st => (-9223372036854775808 ≤ x + y ∧ x + y ≤ 9223372036854775807) ∧ k e.2.1 ls (.inr (.inr (x + y)) :: st) mem
  | .lmul => am_sl st fun y st => am_sl st fun x st => (-9223372036854775808 ≤ x * y ∧ x * y ≤ 9223372036854775807) ∧ k e.2.1 ls (.inr (.inr (x * y)) :: st) mem
  | .ldiv => am_sl st fun y st => am_sl st fun x st => (0 ≤ x ∧ 0 < y) ∧ k e.2.1 ls (.inr (.inr (x / y)) :: st) mem
  | .lrem => am_sl st fun y st => am_sl st fun x st => (0 ≤ x ∧ 0 < y) ∧ k e.2.1 ls (.inr (.inr (x % y)) :: st) mem
  | .land => am_sl st fun y st => am_sl st fun x st => (0 ≤ x ∧ y = 2147483647) ∧ k e.2.1 ls (.inr (.inr (x % 2147483648)) :: st) mem
  | .dup => match st with
    | .inl x :: r => k e.2.1 ls (.inl x :: .inl x :: r) mem
    | .inr (.inl x) :: r => k e.2.1 ls (.inr (.inl x) :: .inr (.inl x) :: r) mem
    | _ => False
  | .dup2 => am_s1 st fun y st => am_sr st fun x st => k e.2.1 ls (.inl y :: .inr (.inl x) :: .inl y :: .inr (.inl x) :: st) mem
  | .pop => am_s1 st fun _ st => k e.2.1 ls st mem
  | .getfield _ => am_sr st fun o st => match SH o, e.2.2.2.2 with
    | some (.inr (ci, fks)), ci' :: j :: _ => bif Nat.beq ci ci' then (match fks[j]? with
      | some 0 => k e.2.1 ls (.inl (mem o j) :: st) mem
      | some 1 => k e.2.1 ls (.inl (mem o j) :: st) mem
      | some (r + 2) => k e.2.1 ls (.inr (.inl r) :: st) mem
      | none => False) else False
    | _, _ => False
  | .putfield _ => am_s1 st fun z st => am_sr st fun o st => match SH o, e.2.2.2.2 with
    | some (.inr (ci, fks)), ci' :: j :: _ => bif Nat.beq ci ci' then (match fks[j]? with
      | some 0 => k e.2.1 ls st (am_up mem o j z)
      | some 1 => (z = 0 ∨ z = 1) ∧ k e.2.1 ls st (am_up mem o j z)
      | _ => False) else False
    | _, _ => False
  | .getstatic _ => match e.2.2.2.2 with
    | r :: _ => k e.2.1 ls (.inr (.inl r) :: st) mem
    | _ => False
  | .iaload => am_s1 st fun i st => am_sr st fun a st => match SH a with
    | some (.inl (false, n)) => (0 ≤ i ∧ i < n) ∧ k e.2.1 ls (.inl (mem a i.toNat) :: st) mem
    | some _ => False
    | none => match rom a with
      | some (n, f) => (0 ≤ i ∧ i < n) ∧ k e.2.1 ls (.inl (f i.toNat) :: st) mem
      | none => False
  | .baload => am_s1 st fun i st => am_sr st fun a st => match SH a with
    | some (.inl (true, n)) => (0 ≤ i ∧ i < n) ∧ k e.2.1 ls (.inl (mem a i.toNat) :: st) mem
    | _ => False
  | .iastore => am_s1 st fun z st => am_s1 st fun i st => am_sr st fun a st => match SH a with
    | some (.inl (false, n)) => (0 ≤ i ∧ i < n) ∧ k e.2.1 ls st (am_up mem a i.toNat z)
    | _ => False
  | .bastore => am_s1 st fun z st => am_s1 st fun i st => am_sr st fun a st => match SH a with
    | some (.inl (true, n)) => ((0 ≤ i ∧ i < n) ∧ (z = 0 ∨ z = 1)) ∧ k e.2.1 ls st (am_up mem a i.toNat z)
    | _ => False
  | .arraylength => am_sr st fun a st => match SH a with
    | some (.inl (_, n)) => k e.2.1 ls (.inl n :: st) mem
    | some _ => False
    | none => match rom a with
      | some (n, _) => k e.2.1 ls (.inl n :: st) mem
      | none => False
  | .if_icmp c _ => am_s1 st fun y st => am_s1 st fun x st => match e.2.2.1 with
    | t :: _ => am_br c x y (k t ls st mem) (k e.2.1 ls st mem)
    | _ => False
  | .ifCond c _ => am_s1 st fun x st => match e.2.2.1 with
    | t :: _ => am_br c x 0 (k t ls st mem) (k e.2.1 ls st mem)
    | _ => False
  | .goto _ => match e.2.2.1 with
    | t :: _ => k t ls st mem
    | _ => False
  | .tableswitch _ lo _ _ => am_s1 st fun x st => match e.2.2.1 with
    | d :: ts => (x < lo → k d ls st mem) ∧ am_tsw x (k d ls st mem) (fun t => k t ls st mem) lo ts
    | _ => False
  | .lookupswitch _ ps => am_s1 st fun x st => match e.2.2.1 with
    | d :: ts => am_lsw x (k d ls st mem) (fun t => k t ls st mem) ps.toList ts
    | _ => False
  | .invokevirtual _ => match e.2.2.2.2 with
    | y :: n :: v :: ci :: _ => match am_take (n + 1) st [] with
      | some (.inr (.inl o) :: as, r) => bif (am_iso SH o ci && Nat.ble r.length 4) then ∃ Qc : am_Po, M y (.inr (.inl o) :: as) mem Qc ∧ ∀ z mem', Qc z mem' → k e.2.1 ls (bif Nat.beq v 0 then r else .inl z :: r) mem' else False
      | _ => False
    | _ => False
  | .invokestatic _ => match e.2.2.2.2 with
    | y :: n :: v :: _ => bif Nat.beq v 9 then (am_s1 st fun c st => am_s1 st fun dp st => am_sr st fun b st => am_s1 st fun sp st => am_sr st fun a st => match SH a, SH b with
      | some (.inl (false, na)), some (.inl (false, nb)) => bif Nat.ble st.length 4 then (0 ≤ sp ∧ 0 ≤ dp ∧ 0 ≤ c ∧ sp + c ≤ na ∧ dp + c ≤ nb) ∧ k e.2.1 ls st (am_cp mem a sp.toNat b dp.toNat c.toNat) else False
      | _, _ => False) else (match am_take n st [] with
      | some (as, r) => bif Nat.ble r.length 4 then ∃ Qc : am_Po, M y as mem Qc ∧ ∀ z mem', Qc z mem' → k e.2.1 ls (bif Nat.beq v 0 then r else .inl z :: r) mem' else False
      | none => False)
    | _ => False
  | .ireturn => match st with
    | [.inl z] => bif rb then (z = 0 ∨ z = 1) ∧ Q z mem else Q z mem
    | _ => False
  | .return_ => match st with
    | [] => Q 0 mem
    | _ => False
  | _ => False
/-- from a place on, up to a cut place or the end -/
def am_wp (SH : Nat → Option am_SC) (rom : Nat → Option (Nat × (Nat → Int))) (M : am_Ct) (rb : Bool) (T : Nat → Option am_AE) (cut : List (Nat × List Nat)) (K : Nat → List am_AV → am_Mem → Prop) (Q : am_Po) : Nat → Nat → am_Lc → List am_AV → am_Mem → Prop
  | 0, _, _, _, _ => False
  | n + 1, pc, ls, st, mem => match T pc with
    | none => False
    | some e => am_stp SH rom M rb e ls st mem (fun pc' ls' st' mem' => match am_cget cut pc' with
      | some keep => (match st', am_kp ls' keep with
        | [], some vs => K pc' vs mem'
        | _, _ => False)
      | none => am_wp SH rom M rb T cut K Q n pc' ls' st' mem') Q
end
section
abbrev am_cls : List vw_C := [(RX0, TX0, 3), (RX1, TX1, 3), (RX2, TX2, 3), (RX3, TX3, 8), (RX4, TX4, 12), (RX5, TX5, 4), (RX6, TX6, 10), (RX7, TX7, 5), (RX8, TX8, 2), (RX9, TX9, 11), (RX10, TX10, 36)]
def am_SHL : List am_SC := [.inr (10, [0, 3, 0, 0, 0, 0, 0, 0, 0, 1, 0, 0, 4, 5, 6, 1, 0, 0, 7, 8, 9, 10, 11, 12, 0, 13, 14, 15, 0, 0, 16, 0, 17, 18, 0, 0]), .inl (false, 200), .inl (false, 3), .inl (false, 12), .inl (false, 18), .inl (false, 3), .inl (false, 12), .inl (false, 18), .inl (false, 17), .inl (false, 17), .inl (false, 510), .inl (false, 34), .inl (false, 2), .inl (true, 2), .inl (false, 24), .inl (false, 40), .inl (true, 100), .inr (9, [20, 22, 31, 38, 42, 44, 48, 53, 56, 0, 0]), .inr (8, [21, 0]), .inl (false, 200), .inr (5, [23, 30, 0, 0]), .inr (4, [1, 0, 0, 0, 0, 0, 24, 25, 26, 27, 28, 29]), .inl (false, 4), .inl (false, 4), .inl (false, 4), .inl (false, 6), .inl (false, 6), .inl (false, 6), .inl (false, 3), .inr (4, [1, 0, 0, 0, 0, 0, 32, 33, 34, 35, 36, 37]), .inl (false, 4), .inl (false, 4), .inl (false, 4), .inl (false, 6), .inl (false, 6), .inl (false, 6), .inr (3, [0, 0, 0, 0, 0, 39, 40, 41]), .inl (false, 4), .inl (false, 4), .inl (false, 4), .inr (1, [43, 0, 0]), .inl (false, 510), .inr (2, [45, 46, 47]), .inl (false, 34), .inl (false, 2), .inl (true, 2), .inr (7, [49, 50, 51, 52, 0]), .inl (false, 6), .inl (false, 6), .inl (false, 6), .inl (true, 6), .inr (0, [54, 55, 0]), .inl (false, 20), .inl (false, 20), .inr (6, [57, 58, 59, 60, 61, 0, 0, 0, 0, 0]), .inl (false, 120), .inl (false, 120), .inl (false, 120), .inl (false, 120), .inr (3, [0, 0, 0, 0, 0, 62, 63, 64]), .inl (false, 4), .inl (false, 4), .inl (false, 4)]
def am_SH (k : Nat) : Option am_SC := am_SHL[k]?
abbrev am_MI : Type := MethodName × ByteArray × Nat × Option FieldType × Nat × Nat
def am_mil : List am_MI := [
  (yX0_add, cX0_add, 3, (some .boolean), 0, 2),
  (yX0_firstWrong, cX0_firstWrong, 4, (some .int), 0, 1),
  (yX1_forget, cX1_forget, 1, none, 0, 0),
  (yX1_push, cX1_push, 2, none, 2, 1),
  (yX1_pop, cX1_pop, 3, none, 2, 2),
  (yX2_forget, cX2_forget, 2, none, 0, 0),
  (yX2_put, cX2_put, 4, none, 2, 3),
  (yX3_begin, cX3_begin, 3, none, 2, 1),
  (yX3_pull, cX3_pull, 3, none, 1, 2),
  (yX3_pullAll, cX3_pullAll, 3, none, 2, 1),
  (yX3_holdFront, cX3_holdFront, 5, (some .int), 2, 2),
  (yX3_holdBack, cX3_holdBack, 5, (some .int), 2, 2),
  (yX3_mile, cX3_mile, 8, (some .boolean), 3, 3),
  (yX3_tightToHold, cX3_tightToHold, 10, (some .int), 3, 4),
  (yX3_save, cX3_save, 3, none, 1, 2),
  (yX3_load, cX3_load, 3, none, 1, 2),
  (yX4_clear, cX4_clear, 1, none, 0, 0),
  (yX4_copy, cX4_copy, 3, none, 1, 1),
  (yX4_setLoad, cX4_setLoad, 4, none, 0, 3),
  (yX4_addCord, cX4_addCord, 4, none, 0, 3),
  (yX4_addRoad, cX4_addRoad, 4, none, 0, 3),
  (yX4_hasCord, cX4_hasCord, 2, (some .boolean), 0, 1),
  (yX4_hasRoad, cX4_hasRoad, 2, (some .boolean), 0, 1),
  (yX4_allMiles, cX4_allMiles, 3, (some .int), 0, 0),
  (yX4_roadBehind, cX4_roadBehind, 4, (some .int), 0, 1),
  (yX4_wayIn, cX4_wayIn, 3, (some .int), 0, 2),
  (yX4_pulledFront, cX4_pulledFront, 4, (some .int), 1, 1),
  (yX4_pulledBack, cX4_pulledBack, 4, (some .int), 2, 1),
  (yX5_readAll, cX5_readAll, 4, none, 4, 1),
  (yX5_readClause, cX5_readClause, 7, (some .int), 3, 2),
  (yX5_readNumber, cX5_readNumber, 8, (some .int), 2, 4),
  (yX5_fail, cX5_fail, 3, (some .int), 0, 2),
  (yX5_wordFault, cX5_wordFault, 3, (some .int), 0, 1),
  (yX5_take, cX5_take, 2, none, 1, 1),
  (yX5_kindOf, cX5_kindOf, 1, (some .int), 0, 1),
  (yX5_isFigure, cX5_isFigure, 1, (some .boolean), 1, 1),
  (yX6_prepare, cX6_prepare, 5, none, 3, 3),
  (yX6_goes, cX6_goes, 7, (some .boolean), 3, 3),
  (yX6_goesOver, cX6_goesOver, 9, (some .boolean), 2, 4),
  (yX6_holdsNext, cX6_holdsNext, 4, (some .boolean), 0, 2),
  (yX6_pullAhead, cX6_pullAhead, 1, none, 0, 0),
  (yX7_add, cX7_add, 5, (some .boolean), 0, 4),
  (yX7_leastTight, cX7_leastTight, 6, (some .int), 4, 3),
  (yX7_mostTight, cX7_mostTight, 6, (some .int), 4, 3),
  (yX8_add, cX8_add, 2, (some .boolean), 0, 1),
  (yX8_letterAt, cX8_letterAt, 2, (some .int), 0, 1),
  (yX8_skipBlanks, cX8_skipBlanks, 3, (some .int), 1, 1),
  (yX9_feed, cX9_feed, 2, (some .int), 1, 1),
  (yX9_trip, cX9_trip, 1, (some .int), 5, 0),
  (yX9_fault, cX9_fault, 1, (some .int), 0, 0),
  (yX9_told, cX9_told, 2, (some .int), 2, 1),
  (yX9_cord, cX9_cord, 3, (some .int), 1, 2),
  (yX9_road, cX9_road, 3, (some .int), 1, 2),
  (yX9_lift, cX9_lift, 6, (some .int), 3, 3),
  (yX9_drive, cX9_drive, 3, (some .int), 5, 2),
  (yX9_stop, cX9_stop, 1, (some .int), 3, 0),
  (yX9_rain, cX9_rain, 2, (some .int), 3, 1),
  (yX9_runs, cX9_runs, 4, (some .int), 3, 2),
  (yX9_pick, cX9_pick, 1, (some .int), 3, 0),
  (yX9_drift, cX9_drift, 3, (some .int), 5, 2),
  (yX9_undo, cX9_undo, 2, (some .int), 3, 1),
  (yX9_highest, cX9_highest, 3, (some .int), 3, 1),
  (yX9_slack, cX9_slack, 3, (some .int), 2, 2),
  (yX9_far, cX9_far, 6, (some .int), 3, 2),
  (yX9_stops, cX9_stops, 3, (some .int), 4, 2),
  (yX9_soonest, cX9_soonest, 5, (some .int), 4, 1),
  (yX9_where, cX9_where, 10, (some .int), 3, 2),
  (yX9_hand, cX9_hand, 7, (some .int), 3, 2),
  (yX9_van, cX9_van, 4, (some .int), 1, 3),
  (yX9_knots, cX9_knots, 7, (some .int), 1, 2),
  (yX9_see, cX9_see, 5, (some .int), 2, 4),
  (yX9_was, cX9_was, 5, (some .int), 5, 2),
  (yX9_tries, cX9_tries, 12, (some .int), 5, 2),
  (yX9_write, cX9_write, 3, (some .int), 1, 2),
  (yX9_judge, cX9_judge, 1, (some .int), 1, 0),
  (yX9_tear, cX9_tear, 2, (some .int), 0, 0),
  (yX9_seed, cX9_seed, 3, (some .int), 0, 1),
  (yX9_keep, cX9_keep, 2, (some .int), 3, 1),
  (yX9_goBack, cX9_goBack, 2, (some .int), 2, 1),
  (yX9_onTheRoof, cX9_onTheRoof, 1, (some .boolean), 0, 0),
  (yX9_milesLeft, cX9_milesLeft, 1, (some .int), 1, 0),
  (yX9_travel, cX9_travel, 7, (some .int), 4, 3),
  (yX9_nextDraw, cX9_nextDraw, 1, (some .int), 0, 0),
  (yX9_climb, cX9_climb, 6, (some .int), 2, 4),
  (yX9_within, cX9_within, 3, (some .boolean), 0, 3),
  (yX9_isPace, cX9_isPace, 1, (some .boolean), 1, 1),
  (yX9_isGust, cX9_isGust, 1, (some .boolean), 1, 1),
  (yX9_liftAll, cX9_liftAll, 4, (some .int), 0, 3),
  (yX9_liftFront, cX9_liftFront, 3, (some .int), 1, 3),
  (yX9_liftBack, cX9_liftBack, 4, (some .int), 1, 3),
  (yX9_cordFront, cX9_cordFront, 2, (some .int), 0, 2),
  (yX9_cordBack, cX9_cordBack, 2, (some .int), 1, 2),
  (yX9_tightBehind, cX9_tightBehind, 5, (some .int), 1, 4),
  (yX10_in, cX10_in, 3, (some .boolean), 0, 3),
  (yX10_isCord, cX10_isCord, 2, (some .boolean), 1, 1),
  (yX10_feed, cX10_feed, 2, (some .int), 1, 1),
  (yX10_nextToken, cX10_nextToken, 1, none, 1, 0),
  (yX10_fails, cX10_fails, 2, (some .boolean), 0, 1),
  (yX10_isNumber, cX10_isNumber, 3, (some .boolean), 2, 2),
  (yX10_areThree, cX10_areThree, 9, (some .boolean), 3, 8),
  (yX10_isClause, cX10_isClause, 1, (some .boolean), 4, 0),
  (yX10_isRead, cX10_isRead, 1, (some .boolean), 5, 0),
  (yX10_bring, cX10_bring, 6, none, 0, 5),
  (yX10_pull, cX10_pull, 3, none, 0, 2),
  (yX10_pullAll, cX10_pullAll, 3, none, 1, 1),
  (yX10_allMiles, cX10_allMiles, 3, (some .int), 0, 0),
  (yX10_trip, cX10_trip, 3, (some .int), 6, 0),
  (yX10_fault, cX10_fault, 1, (some .int), 0, 0),
  (yX10_roadOf, cX10_roadOf, 4, (some .int), 0, 1),
  (yX10_told, cX10_told, 2, (some .int), 1, 1),
  (yX10_cord, cX10_cord, 3, (some .int), 2, 2),
  (yX10_road, cX10_road, 3, (some .int), 1, 2),
  (yX10_liftBy, cX10_liftBy, 3, (some .int), 0, 2),
  (yX10_frontHold, cX10_frontHold, 5, (some .int), 0, 1),
  (yX10_backHold, cX10_backHold, 5, (some .int), 0, 1),
  (yX10_holdsBy, cX10_holdsBy, 7, (some .boolean), 1, 4),
  (yX10_holds, cX10_holds, 4, (some .boolean), 2, 3),
  (yX10_lift, cX10_lift, 6, (some .int), 3, 3),
  (yX10_note, cX10_note, 1, none, 1, 0),
  (yX10_slacken, cX10_slacken, 4, none, 0, 1),
  (yX10_goOn, cX10_goOn, 6, (some .boolean), 3, 3),
  (yX10_canGo, cX10_canGo, 1, (some .boolean), 1, 0),
  (yX10_goMiles, cX10_goMiles, 7, (some .int), 4, 3),
  (yX10_drive, cX10_drive, 3, (some .int), 5, 2),
  (yX10_stop, cX10_stop, 1, (some .int), 2, 0),
  (yX10_rain, cX10_rain, 2, (some .int), 2, 1),
  (yX10_runs, cX10_runs, 4, (some .int), 2, 2),
  (yX10_pick, cX10_pick, 1, (some .int), 2, 0),
  (yX10_draw, cX10_draw, 2, (some .int), 0, 1),
  (yX10_drift, cX10_drift, 3, (some .int), 5, 2),
  (yX10_undo, cX10_undo, 2, (some .int), 1, 1),
  (yX10_highestBy, cX10_highestBy, 5, (some .int), 2, 3),
  (yX10_highest, cX10_highest, 2, (some .int), 3, 1),
  (yX10_begin, cX10_begin, 1, none, 1, 0),
  (yX10_slack, cX10_slack, 4, (some .int), 2, 2),
  (yX10_far, cX10_far, 4, (some .int), 3, 2),
  (yX10_layStops, cX10_layStops, 3, (some .boolean), 4, 1),
  (yX10_stops, cX10_stops, 3, (some .int), 5, 2),
  (yX10_soonest, cX10_soonest, 5, (some .int), 5, 1),
  (yX10_layWays, cX10_layWays, 4, none, 2, 1),
  (yX10_where, cX10_where, 8, (some .int), 3, 2),
  (yX10_hand, cX10_hand, 5, (some .int), 3, 2),
  (yX10_van, cX10_van, 4, (some .int), 1, 3),
  (yX10_knots, cX10_knots, 6, (some .int), 1, 2),
  (yX10_see, cX10_see, 5, (some .int), 2, 4),
  (yX10_wouldHold, cX10_wouldHold, 5, (some .boolean), 3, 4),
  (yX10_couldBe, cX10_couldBe, 5, (some .boolean), 4, 2),
  (yX10_was, cX10_was, 7, (some .int), 5, 2),
  (yX10_tries, cX10_tries, 9, (some .int), 6, 2),
  (yX10_write, cX10_write, 3, (some .int), 2, 2),
  (yX10_judge, cX10_judge, 2, (some .int), 0, 0),
  (yX10_tear, cX10_tear, 2, (some .int), 0, 0),
  (yX10_seed, cX10_seed, 3, (some .int), 0, 1),
  (yX10_keep, cX10_keep, 2, (some .int), 1, 1),
  (yX10_goBack, cX10_goBack, 2, (some .int), 1, 1),
  (yJ9_floorMod_7cf53, cJ9_floorMod_7cf53, 3, (some .int), 0, 2),
  (yJ9_max_7cf53, cJ9_max_7cf53, 2, (some .int), 0, 2),
  (yJ9_min_7cf53, cJ9_min_7cf53, 2, (some .int), 0, 2)]
def am_mi (y : Nat) : am_MI := match am_mil[y]? with
  | some q => q
  | none => (⟨"", "", ""⟩, ⟨#[]⟩, 0, none, 0, 0)
end
section
/-! words of the tables that every method takes along; places of the world -/
def am_gt : List Cond := lw_tbl.filter goodWord
def am_isn : Cond → Bool
  | .methodLinkNest _ _ _ _ => true
  | _ => false
def am_nt : List Cond := lw_tbl.filter am_isn
def am_isw (pl : Nat) (w : Cond) : Bool := decide (lw_tbl[pl]? = some w) && goodWord w
theorem am_isw_mem {pl : Nat} {w : Cond} (h : am_isw pl w = true) : w ∈ am_gt := by
  simp only [am_isw, Bool.and_eq_true, decide_eq_true_eq] at h
  exact List.mem_filter.mpr ⟨List.mem_of_getElem? h.1, h.2⟩
theorem am_gt_good : GoodIn am_gt am_gt := fun w hw => ⟨hw, good_of_word (List.mem_filter.mp hw).2⟩
theorem am_good_code {w : Cond} {ws : List Cond} (hw : w ∈ am_gt) : GoodIn am_gt (w :: am_gt) := fun q hq => by
  rcases List.mem_cons.mp hq with h | h
  · subst h; exact am_gt_good _ hw
  · exact am_gt_good q h
abbrev am_G : Type := va_G × (Nat → Nat) × ClassId × ClassId
def am_A (g : am_G) : Nat → Prop := fun q => ∃ k, k < 63 ∧ q = g.2.1 k
def am_fv (ad : Nat → Nat) (mem : am_Mem) (a : Nat) : Nat → List Nat → List Value
  | _, [] => []
  | j, 0 :: r => .int (Int32.ofInt (mem a j)) :: am_fv ad mem a (j + 1) r
  | j, 1 :: r => .int (Int32.ofInt (mem a j)) :: am_fv ad mem a (j + 1) r
  | j, (k + 2) :: r => .ref (ad k) :: am_fv ad mem a (j + 1) r
def am_ce (g : am_G) (mem : am_Mem) (a : Nat) : am_SC → va_E
  | .inl (z, n) => .inl (bif z then g.2.2.2 else g.2.2.1, n, .inl (fun j => Int32.ofInt (mem a j)))
  | .inr (ci, fks) => .inr (ci, am_fv g.2.1 mem a 0 fks)
def am_wl (g : am_G) (mem : am_Mem) : Nat → List am_SC → va_W
  | _, [] => []
  | k, c :: r => (g.2.1 k, am_ce g mem k c) :: am_wl g mem (k + 1) r
def am_wo (g : am_G) (mem : am_Mem) : va_W := am_wl g mem 0 am_SHL
theorem am_wl_get (g : am_G) (mem : am_Mem) : ∀ (L : List am_SC) (k i : Nat), (am_wl g mem k L)[i]? = (L[i]?).map (fun c => (g.2.1 (k + i), am_ce g mem (k + i) c))
  | [], k, i => by simp [am_wl]
  | c :: r, k, 0 => by simp [am_wl]
  | c :: r, k, i + 1 => by
    simp only [am_wl, List.getElem?_cons_succ]
    rw [am_wl_get g mem r (k + 1) i, Nat.add_assoc k 1 i, Nat.add_comm 1 i]
theorem am_wo_get (g : am_G) (mem : am_Mem) {a : Nat} {c : am_SC} (h : am_SH a = some c) : (am_wo g mem)[a]? = some (g.2.1 a, am_ce g mem a c) := by
  have := am_wl_get g mem am_SHL 0 a
  rw [show am_SHL[a]? = some c from h] at this
  simpa [am_wo] using this
theorem am_sh_lt {a : Nat} {c : am_SC} (h : am_SH a = some c) : a < 63 := by
  have := (List.getElem?_eq_some_iff.mp h).1
  have h63 : am_SHL.length = 63 := by decide +kernel
  omega
theorem am_wo_inv (g : am_G) (mem : am_Mem) {i : Nat} {q : Nat × va_E} (h : (am_wo g mem)[i]? = some q) : i < 63 ∧ q.1 = g.2.1 i := by
  have h1 := am_wl_get g mem am_SHL 0 i
  rw [show am_wl g mem 0 am_SHL = am_wo g mem from rfl, h] at h1
  cases hc : am_SHL[i]? with
  | none => rw [hc] at h1; cases h1
  | some c =>
    rw [hc] at h1
    have := Option.some.inj h1
    subst this
    exact ⟨am_sh_lt hc, by simp⟩
def am_inj (g : am_G) : Prop := ∀ i j, i < 63 → j < 63 → g.2.1 i = g.2.1 j → i = j
theorem am_wo_D {g : am_G} {A : Nat → Prop} (hi : am_inj g) (hA : ∀ k, k < 63 → A (g.2.1 k)) (mem : am_Mem) : va_D A (am_wo g mem) := by
  refine ⟨fun i j x y hx hy hxy => ?_, fun k q hk => ?_⟩
  · obtain ⟨h1, h2⟩ := am_wo_inv g mem hx
    obtain ⟨h3, h4⟩ := am_wo_inv g mem hy
    exact hi i j h1 h3 (by rw [← h2, ← h4, hxy])
  · obtain ⟨h1, h2⟩ := am_wo_inv g mem hk
    rw [h2]; exact hA k h1
/-- one cell is written -/
theorem am_wo_set (g : am_G) {mem mem' : am_Mem} {a : Nat} {c : am_SC} (h : am_SH a = some c) (ho : ∀ k, k ≠ a → ∀ c', am_ce g mem' k c' = am_ce g mem k c') : (am_wo g mem).set a (g.2.1 a, am_ce g mem' a c) = am_wo g mem' := by
  apply List.ext_getElem?
  intro i
  rw [List.getElem?_set]
  by_cases hi : a = i
  · subst hi
    rw [if_pos rfl, am_wo_get g mem' h]
    have : a < (am_wo g mem).length := (List.getElem?_eq_some_iff.mp (am_wo_get g mem h)).1
    simp [this]
  · rw [if_neg hi]
    have h1 := am_wl_get g mem am_SHL 0 i
    have h2 := am_wl_get g mem' am_SHL 0 i
    rw [show am_wo g mem = am_wl g mem 0 am_SHL from rfl, show am_wo g mem' = am_wl g mem' 0 am_SHL from rfl, h1, h2]
    cases am_SHL[i]? with
    | none => rfl
    | some c' =>
      simp only [Option.map_some, Nat.zero_add]
      rw [ho i (fun e => hi e.symm) c']
theorem am_fv_ext (ad : Nat → Nat) {mem mem' : am_Mem} {k : Nat} : ∀ (fks : List Nat) (j : Nat), (∀ i, mem' k i = mem k i) → am_fv ad mem' k j fks = am_fv ad mem k j fks
  | [], _, _ => rfl
  | 0 :: r, j, h => by simp only [am_fv, h j, am_fv_ext ad r (j + 1) h]
  | 1 :: r, j, h => by simp only [am_fv, h j, am_fv_ext ad r (j + 1) h]
  | (q + 2) :: r, j, h => by simp only [am_fv, am_fv_ext ad r (j + 1) h]
theorem am_ce_ext (g : am_G) {mem mem' : am_Mem} {k : Nat} (h : ∀ i, mem' k i = mem k i) (c : am_SC) : am_ce g mem' k c = am_ce g mem k c := by
  cases c with
  | inl q => obtain ⟨z, n⟩ := q; simp only [am_ce, h]
  | inr q => obtain ⟨ci, fks⟩ := q; simp only [am_ce, am_fv_ext g.2.1 fks 0 h]
theorem am_up_ne {mem : am_Mem} {a j k i : Nat} {z : Int} (h : k ≠ a) : am_up mem a j z k i = mem k i := by simp [am_up, h]
theorem am_cp_ne {mem : am_Mem} {a sp b dp n k i : Nat} (h : k ≠ b) : am_cp mem a sp b dp n k i = mem k i := by simp [am_cp, h]
theorem am_fv_get (ad : Nat → Nat) (mem : am_Mem) (a : Nat) : ∀ (fks : List Nat) (i j : Nat) (q : Nat), fks[j]? = some q → (am_fv ad mem a i fks)[j]? = some (match q with | 0 => .int (Int32.ofInt (mem a (i + j))) | 1 => .int (Int32.ofInt (mem a (i + j))) | r + 2 => .ref (ad r))
  | [], _, _, _, h => by simp at h
  | f :: r, i, 0, q, h => by
    simp only [List.getElem?_cons_zero, Option.some.injEq] at h
    subst h
    match f with
    | 0 => simp [am_fv]
    | 1 => simp [am_fv]
    | k + 2 => simp [am_fv]
  | f :: r, i, j + 1, q, h => by
    simp only [List.getElem?_cons_succ] at h
    have := am_fv_get ad mem a r (i + 1) j q h
    rw [show i + (j + 1) = i + 1 + j by omega]
    match f with
    | 0 => simpa [am_fv] using this
    | 1 => simpa [am_fv] using this
    | k + 2 => simpa [am_fv] using this
theorem am_fv_len (ad : Nat → Nat) (mem : am_Mem) (a : Nat) : ∀ (fks : List Nat) (i : Nat), (am_fv ad mem a i fks).length = fks.length
  | [], _ => rfl
  | 0 :: r, i => by simp [am_fv, am_fv_len ad mem a r (i + 1)]
  | 1 :: r, i => by simp [am_fv, am_fv_len ad mem a r (i + 1)]
  | (k + 2) :: r, i => by simp [am_fv, am_fv_len ad mem a r (i + 1)]
/-- an int field is written -/
theorem am_fv_set (ad : Nat → Nat) (mem : am_Mem) (a : Nat) (z : Int) : ∀ (fks : List Nat) (i j : Nat), (fks[j]? = some 0 ∨ fks[j]? = some 1) → (am_fv ad mem a i fks).set j (.int (Int32.ofInt z)) = am_fv ad (am_up mem a (i + j) z) a i fks
  | [], _, _, h => by simp at h
  | f :: r, i, 0, h => by
    have hr : ∀ (fks : List Nat) (b : Nat), i < b → am_fv ad (am_up mem a i z) a b fks = am_fv ad mem a b fks := by
      intro fks
      induction fks with
      | nil => intro b _; rfl
      | cons f r ih =>
        intro b hb
        have hne : b ≠ i := by omega
        match f with
        | 0 => simp [am_fv, ih (b + 1) (by omega), am_up, hne]
        | 1 => simp [am_fv, ih (b + 1) (by omega), am_up, hne]
        | k + 2 => simp [am_fv, ih (b + 1) (by omega)]
    simp only [List.getElem?_cons_zero, Option.some.injEq] at h
    rcases h with rfl | rfl
    · simp only [am_fv, List.set_cons_zero, Nat.add_zero, hr r (i + 1) (by omega)]
      simp [am_up]
    · simp only [am_fv, List.set_cons_zero, Nat.add_zero, hr r (i + 1) (by omega)]
      simp [am_up]
  | f :: r, i, j + 1, h => by
    simp only [List.getElem?_cons_succ] at h
    have ih := am_fv_set ad mem a z r (i + 1) j h
    rw [show i + (j + 1) = i + 1 + j by omega]
    have hne : i ≠ i + 1 + j := by omega
    match f with
    | 0 => simp only [am_fv, List.set_cons_succ, ih]; simp [am_up, hne]
    | 1 => simp only [am_fv, List.set_cons_succ, ih]; simp [am_up, hne]
    | k + 2 => simp only [am_fv, List.set_cons_succ, ih]
/-- an int array's place is written -/
theorem am_arr_up (mem : am_Mem) (a i : Nat) (z : Int) : upd (fun j => Int32.ofInt (mem a j)) i (Int32.ofInt z) = fun j => Int32.ofInt (am_up mem a i z a j) := by
  funext j
  by_cases h : j = i <;> simp [upd, am_up, h]
theorem am_arr_cp (mem : am_Mem) (a sp b dp n : Nat) : va_cpy (fun j => Int32.ofInt (mem a j)) (fun j => Int32.ofInt (mem b j)) sp dp n = fun j => Int32.ofInt (am_cp mem a sp b dp n b j) := by
  funext j
  by_cases h : dp ≤ j ∧ j < dp + n <;> simp [va_cpy, am_cp, h]
/-! numbers -/
theorem am_toInt {z : Int} (h : am_inR z) : (Int32.ofInt z).toInt = z := Int32.toInt_ofInt_of_le h.1 (by have := h.2; omega)
theorem am_toIntL {z : Int} (h : am_inL z) : (Int64.ofInt z).toInt = z := Int64.toInt_ofInt_of_le h.1 (by have := h.2; omega)
theorem am_lt {x y : Int} (hx : am_inR x) (hy : am_inR y) : Int32.ofInt x < Int32.ofInt y ↔ x < y := by rw [Int32.lt_iff_toInt_lt, am_toInt hx, am_toInt hy]
theorem am_le {x y : Int} (hx : am_inR x) (hy : am_inR y) : Int32.ofInt x ≤ Int32.ofInt y ↔ x ≤ y := by rw [Int32.le_iff_toInt_le, am_toInt hx, am_toInt hy]
theorem am_eq {x y : Int} (hx : am_inR x) (hy : am_inR y) : Int32.ofInt x = Int32.ofInt y ↔ x = y := by rw [← Int32.toInt_inj, am_toInt hx, am_toInt hy]
theorem am_0 : (0 : Int32) = Int32.ofInt 0 := by decide +kernel
theorem am_in0 : am_inR 0 := by unfold am_inR; omega
theorem am_clamp {z : Int} (h : am_inR z) (h0 : 0 ≤ z) : (Int32.ofInt z).toNatClampNeg = z.toNat := by
  show (Int32.ofInt z).toInt.toNat = z.toNat
  rw [am_toInt h]
theorem am_vp_in {z : Int} {n : Nat} (h : am_inR z) (h0 : 0 ≤ z) (hn : z < n) : vp_in (Int32.ofInt z) n := by
  rw [vp_in_iff, am_toInt h]; exact ⟨h0, hn⟩
theorem am_divR {x y : Int} (hx : am_inR x) (h0 : 0 ≤ x) (hy : 0 < y) : am_inR (x / y) := by
  have h1 : 0 ≤ x / y := Int.ediv_nonneg h0 (by omega)
  have h2 : x / y ≤ x := Int.ediv_le_self y h0
  exact ⟨by omega, by have := hx.2; omega⟩
theorem am_modR {x y : Int} (hy : am_inR y) (h : 0 < y) : am_inR (x % y) := by
  have h1 := Int.emod_nonneg x (show y ≠ 0 by omega)
  have h2 := Int.emod_lt_of_pos x h
  exact ⟨by omega, by have := hy.2; omega⟩
theorem am_div {x y : Int} (hx : am_inR x) (hy : am_inR y) (h0 : 0 ≤ x) (hp : 0 < y) : Int32.ofInt x / Int32.ofInt y = Int32.ofInt (x / y) := by
  apply Int32.toInt_inj.mp
  rw [Int32.toInt_div_of_ne_left _ _ (fun e => ?_), am_toInt hx, am_toInt hy, am_toInt (am_divR hx h0 hp), Int.tdiv_eq_ediv_of_nonneg h0]
  have h1 := congrArg Int32.toInt e
  rw [am_toInt hx] at h1
  rw [h1] at h0
  exact absurd h0 (by decide +kernel)
theorem am_ne0 {y : Int} (hy : am_inR y) (hp : 0 < y) : ¬ Int32.ofInt y = 0 := by
  rw [am_0, am_eq hy am_in0]; omega
theorem am_rem {x y : Int} (hx : am_inR x) (hy : am_inR y) (h0 : 0 ≤ x) (hp : 0 < y) : Int32.ofInt x - Int32.ofInt x / Int32.ofInt y * Int32.ofInt y = Int32.ofInt (x % y) := by
  rw [am_div hx hy h0 hp, ← Int32.ofInt_mul, ← Int32.ofInt_sub]
  congr 1
  have := Int.emod_add_mul_ediv x y
  rw [Int.mul_comm (x / y) y]
  omega
theorem am_rem2 {x y : Int} (hx : am_inR x) (hy : am_inR y) (h0 : x < 0) (hp : 0 < y) : Int32.ofInt x - Int32.ofInt x / Int32.ofInt y * Int32.ofInt y = Int32.ofInt (-((-x) % y)) := by
  have hd : Int32.ofInt x / Int32.ofInt y = Int32.ofInt (-((-x) / y)) := by
    apply Int32.toInt_inj.mp
    have e1 : x.tdiv y = -((-x) / y) := by
      rw [← Int.neg_neg x, Int.neg_tdiv, Int.neg_neg, Int.tdiv_eq_ediv_of_nonneg (by omega)]
    have hb : am_inR (-((-x) / y)) := by
      have h1 : 0 ≤ (-x) / y := Int.ediv_nonneg (by omega) (by omega)
      have h2 : (-x) / y ≤ -x := Int.ediv_le_self y (by omega)
      have := hx.1
      exact ⟨by omega, by omega⟩
    rw [Int32.toInt_div_of_ne_right _ _ (fun e => ?_), am_toInt hx, am_toInt hy, am_toInt hb, e1]
    have h1 := congrArg Int32.toInt e
    rw [am_toInt hy, show (-1 : Int32).toInt = -1 by decide +kernel] at h1
    omega
  rw [hd, ← Int32.ofInt_mul, ← Int32.ofInt_sub]
  congr 1
  have := Int.emod_add_mul_ediv (-x) y
  rw [Int.neg_mul, Int.mul_comm ((-x) / y) y]
  omega
theorem am_divL {x y : Int} (hx : am_inL x) (h0 : 0 ≤ x) (hy : 0 < y) : am_inL (x / y) := by
  have h1 : 0 ≤ x / y := Int.ediv_nonneg h0 (by omega)
  have h2 : x / y ≤ x := Int.ediv_le_self y h0
  exact ⟨by omega, by have := hx.2; omega⟩
theorem am_modL {x y : Int} (hy : am_inL y) (h : 0 < y) : am_inL (x % y) := by
  have h1 := Int.emod_nonneg x (show y ≠ 0 by omega)
  have h2 := Int.emod_lt_of_pos x h
  exact ⟨by omega, by have := hy.2; omega⟩
theorem am_ldiv {x y : Int} (hx : am_inL x) (hy : am_inL y) (h0 : 0 ≤ x) (hp : 0 < y) : Int64.ofInt x / Int64.ofInt y = Int64.ofInt (x / y) := by
  apply Int64.toInt_inj.mp
  rw [Int64.toInt_div_of_ne_left _ _ (fun e => ?_), am_toIntL hx, am_toIntL hy, am_toIntL (am_divL hx h0 hp), Int.tdiv_eq_ediv_of_nonneg h0]
  have h1 := congrArg Int64.toInt e
  rw [am_toIntL hx] at h1
  rw [h1] at h0
  exact absurd h0 (by decide +kernel)
theorem am_lne0 {y : Int} (hy : am_inL y) (hp : 0 < y) : ¬ Int64.ofInt y = 0 := by
  intro e
  have h1 := congrArg Int64.toInt e
  rw [am_toIntL hy, show (0 : Int64).toInt = 0 by decide +kernel] at h1
  omega
theorem am_lrem {x y : Int} (hx : am_inL x) (hy : am_inL y) (h0 : 0 ≤ x) (hp : 0 < y) : Int64.ofInt x - Int64.ofInt x / Int64.ofInt y * Int64.ofInt y = Int64.ofInt (x % y) := by
  rw [am_ldiv hx hy h0 hp, ← Int64.ofInt_mul, ← Int64.ofInt_sub]
  congr 1
  have := Int.emod_add_mul_ediv x y
  rw [Int.mul_comm (x / y) y]
  omega
end
section
theorem am_tn {z : Int} (h : am_inR z) : ((Int32.ofInt z).toBitVec.toNat : Int) = z % 4294967296 := by
  rw [Int32.toBitVec_ofInt]
  simp [BitVec.toNat_ofInt]
  omega
theorem am_andR (x : Int) {y : Int} (h : y = 3 ∨ y = 31) : am_inR (x % (y + 1)) := by
  rcases h with rfl | rfl
  · exact am_modR (y := 3 + 1) ⟨by omega, by omega⟩ (by omega)
  · exact am_modR (y := 31 + 1) ⟨by omega, by omega⟩ (by omega)
theorem am_and {x y : Int} (hx : am_inR x) (h : y = 3 ∨ y = 31) : Int32.ofInt x &&& Int32.ofInt y = Int32.ofInt (x % (y + 1)) := by
  have e := am_tn hx
  rcases h with rfl | rfl
  · rw [pk_and (Int32.ofInt x) (m := Int32.ofInt 3) 2 (by decide +kernel)]
    show Int32.ofNat _ = _
    rw [← Int32.ofInt_eq_ofNat]
    congr 1
    omega
  · rw [pk_and (Int32.ofInt x) (m := Int32.ofInt 31) 5 (by decide +kernel)]
    show Int32.ofNat _ = _
    rw [← Int32.ofInt_eq_ofNat]
    congr 1
    omega
theorem am_xor {x y : Int} (hx : am_inR x) (hy : am_inR y) : ∃ z : Int, am_inR z ∧ Int32.ofInt x ^^^ Int32.ofInt y = Int32.ofInt z ∧ (0 ≤ z ↔ (0 ≤ x ↔ 0 ≤ y)) := by
  have b := (Int32.ofInt x ^^^ Int32.ofInt y).toInt_lt
  have b2 := (Int32.ofInt x ^^^ Int32.ofInt y).le_toInt
  refine ⟨(Int32.ofInt x ^^^ Int32.ofInt y).toInt, ⟨b2, by omega⟩, (Int32.ofInt_toInt _).symm, ?_⟩
  have key : ∀ a : BitVec 32, 0 ≤ a.toInt ↔ a.msb = false := fun a => by
    rw [BitVec.msb_eq_toInt]
    simp
  have h1 : 0 ≤ (Int32.ofInt x ^^^ Int32.ofInt y).toInt ↔ ((Int32.ofInt x).toBitVec ^^^ (Int32.ofInt y).toBitVec).msb = false := key _
  have h2 : 0 ≤ (Int32.ofInt x).toInt ↔ (Int32.ofInt x).toBitVec.msb = false := key _
  have h3 : 0 ≤ (Int32.ofInt y).toInt ↔ (Int32.ofInt y).toBitVec.msb = false := key _
  rw [am_toInt hx] at h2
  rw [am_toInt hy] at h3
  rw [h1, h2, h3, BitVec.msb_xor]
  cases (Int32.ofInt x).toBitVec.msb <;> cases (Int32.ofInt y).toBitVec.msb <;> simp
theorem am_shl_n : ∀ n : Nat, n < 31 → Int32.ofInt 1 <<< (Int32.ofInt (n : Int) &&& 31) = Int32.ofInt (2 ^ n) := by decide +kernel
theorem am_pow_n : ∀ n : Nat, n < 31 → -2147483648 ≤ (2 ^ n : Int) ∧ (2 ^ n : Int) ≤ 2147483647 := by decide +kernel
theorem am_shl {x y : Int} (h : x = 1 ∧ 0 ≤ y ∧ y ≤ 30) : Int32.ofInt x <<< (Int32.ofInt y &&& 31) = Int32.ofInt (2 ^ y.toNat) ∧ am_inR (2 ^ y.toNat) := by
  obtain ⟨rfl, h1, h2⟩ := h
  have e : (y.toNat : Int) = y := Int.toNat_of_nonneg h1
  have := am_shl_n y.toNat (by omega)
  rw [e] at this
  exact ⟨this, am_pow_n y.toNat (by omega)⟩
theorem am_shr_n : ∀ n : Nat, n < 32 → ((Int32.ofInt (n : Int) &&& 31).toBitVec.smod 32).toNat = n := by decide +kernel
theorem am_shr {x y : Int} (hx : am_inR x) (h : 0 ≤ x ∧ 0 ≤ y ∧ y ≤ 31) : Int32.ofInt x >>> (Int32.ofInt y &&& 31) = Int32.ofInt (x / 2 ^ y.toNat) ∧ am_inR (x / 2 ^ y.toNat) := by
  obtain ⟨h0, h1, h2⟩ := h
  have e : (y.toNat : Int) = y := Int.toNat_of_nonneg h1
  have hs := am_shr_n y.toNat (by omega)
  rw [e] at hs
  have hp : (0 : Int) < 2 ^ y.toNat := Int.pow_pos (by omega)
  have hR := am_divR hx h0 hp
  refine ⟨?_, hR⟩
  apply Int32.toInt_inj.mp
  rw [pk_shr _ _ _ hs, am_toInt hx, am_toInt hR, Int.shiftRight_eq_div_pow]
  simp
theorem am_landR (x : Int) : am_inL (x % 2147483648) := am_modL ⟨by omega, by omega⟩ (by omega)
theorem am_land {x y : Int} (hx : am_inL x) (h : 0 ≤ x ∧ y = 2147483647) : Int64.ofInt x &&& Int64.ofInt y = Int64.ofInt (x % 2147483648) := by
  obtain ⟨h0, rfl⟩ := h
  apply Int64.toBitVec.inj
  apply BitVec.eq_of_toNat_eq
  rw [Int64.toBitVec_and, BitVec.toNat_and, Int64.toBitVec_ofInt, Int64.toBitVec_ofInt, Int64.toBitVec_ofInt, BitVec.toNat_ofInt, BitVec.toNat_ofInt, BitVec.toNat_ofInt]
  rw [show ((2147483647 : Int) % (2 ^ 64 : Nat)).toNat = 2 ^ 31 - 1 by decide +kernel, Nat.and_two_pow_sub_one_eq_mod]
  have := hx.2
  omega
end
section
/-! what is checked of an instruction's row, by the kernel -/
def am_inRb (z : Int) : Bool := decide (-2147483648 ≤ z) && decide (z ≤ 2147483647)
def am_inLb (z : Int) : Bool := decide (-9223372036854775808 ≤ z) && decide (z ≤ 9223372036854775807)
theorem am_inRb_ok {z : Int} (h : am_inRb z = true) : am_inR z := by
  simp only [am_inRb, Bool.and_eq_true, decide_eq_true_eq] at h; exact h
theorem am_inLb_ok {z : Int} (h : am_inLb z = true) : am_inL z := by
  simp only [am_inLb, Bool.and_eq_true, decide_eq_true_eq] at h; exact h
def am_fw (own : String) (idx ci j pl : Nat) (put : Bool) : Bool := match am_cls[ci]? with
  | some q => Nat.blt j q.2.2 && am_isw pl (.fieldLink own idx (q.2.1 j).1 (q.2.1 j).2.1 (q.2.1 j).2.2.1) && (!put || !(q.2.1 j).2.2.2)
  | none => false
/-- a call of method y: its code, arity, depth, whether it answers -/
def am_cw (dp y n v pc pi : Nat) : Bool :=
  am_isw pc (.code (am_mi y).1 (am_mi y).2.1 (am_mi y).2.2.1 (am_mi y).2.2.2.1) && am_isw pi (.initialized (am_mi y).1.cls) && decide ((parseMethodDescriptor (am_mi y).1.desc).map (fun d => d.parameters.length) = some n)
  && decide ((am_mi y).1.cls ≠ "java/lang/invoke/MethodHandle") && decide ((am_mi y).1.cls ≠ "java/lang/invoke/VarHandle") && Nat.blt (am_mi y).2.2.2.2.1 dp && Nat.ble (am_mi y).2.2.1 17 && decide (v = 0 ↔ (am_mi y).2.2.2.1 = none)
def am_okI (own : String) (nL dp : Nat) (rv : Bool) (pc : Nat) (e : am_AE) : Bool := match e.1 with
  | .iconst n => am_inRb n && Nat.beq e.2.1 (pc + 1)
  | .bipush n => am_inRb n && decide ((Int8.ofInt n).toInt32 = Int32.ofInt n) && Nat.beq e.2.1 (pc + 2)
  | .sipush n => am_inRb n && decide ((Int16.ofInt n).toInt32 = Int32.ofInt n) && Nat.beq e.2.1 (pc + 3)
  | .ldc idx => am_inRb e.2.2.2.1 && Nat.beq e.2.1 (pc + 2) && (match e.2.2.2.2 with
    | pl :: _ => am_isw pl (.constant own idx (Int32.ofInt e.2.2.2.1))
    | _ => false)
  | .ldc_w idx => am_inRb e.2.2.2.1 && Nat.beq e.2.1 (pc + 3) && (match e.2.2.2.2 with
    | pl :: _ => am_isw pl (.constant own idx (Int32.ofInt e.2.2.2.1))
    | _ => false)
  | .ldc2_w idx => am_inLb e.2.2.2.1 && Nat.beq e.2.1 (pc + 3) && (match e.2.2.2.2 with
    | pl :: _ => am_isw pl (.constantLong own idx (Int64.ofInt e.2.2.2.1))
    | _ => false)
  | .iload _ => Nat.beq e.2.1 (pc + 2)
  | .aload _ => Nat.beq e.2.1 (pc + 2)
  | .iload_n _ | .aload_n _ | .lload_n _ => Nat.beq e.2.1 (pc + 1)
  | .istore i => Nat.blt i nL && Nat.beq e.2.1 (pc + 2)
  | .istore_n i => Nat.blt i.val nL && Nat.beq e.2.1 (pc + 1)
  | .astore_n i => Nat.blt i.val nL && Nat.beq e.2.1 (pc + 1)
  | .lstore_n i => Nat.blt (i.val + 1) nL && Nat.beq e.2.1 (pc + 1)
  | .iinc i _ => Nat.blt i nL && Nat.beq e.2.1 (pc + 3)
  | .iadd | .isub | .imul | .idiv | .irem | .iand | .ixor | .ishl | .ishr | .i2l | .l2i | .ladd | .lmul | .ldiv | .lrem | .land | .dup | .dup2 | .pop | .iaload | .baload | .iastore | .bastore | .arraylength => Nat.beq e.2.1 (pc + 1)
  | .getfield idx => Nat.beq e.2.1 (pc + 3) && (match e.2.2.2.2 with
    | ci :: j :: pl :: _ => am_fw own idx ci j pl false
    | _ => false)
  | .putfield idx => Nat.beq e.2.1 (pc + 3) && (match e.2.2.2.2 with
    | ci :: j :: pl :: _ => am_fw own idx ci j pl true
    | _ => false)
  | .getstatic idx => Nat.beq e.2.1 (pc + 3) && (match e.2.2.2.2 with
    | r :: pl :: _ => (Nat.beq r 63 && am_isw pl (.fieldLink own idx "RoofMattress$Reader" "LEAST" "[I")) || (Nat.beq r 64 && am_isw pl (.fieldLink own idx "RoofMattress$Reader" "MOST" "[I"))
    | _ => false)
  | .if_icmp _ off => Nat.beq e.2.1 (pc + 3) && (match e.2.2.1 with
    | t :: _ => decide ((pc : Int) + off = (t : Int))
    | _ => false)
  | .ifCond _ off => Nat.beq e.2.1 (pc + 3) && (match e.2.2.1 with
    | t :: _ => decide ((pc : Int) + off = (t : Int))
    | _ => false)
  | .goto off => Nat.beq e.2.1 (pc + 3) && (match e.2.2.1 with
    | t :: _ => decide ((pc : Int) + off = (t : Int))
    | _ => false)
  | .tableswitch d lo hi offs => (match e.2.2.1 with
    | dt :: ts => decide ((pc : Int) + d = (dt : Int)) && decide (offs.toList.map (fun o => (pc : Int) + o) = ts.map (fun t : Nat => (t : Int))) && decide (hi = lo + offs.size - 1)
    | _ => false)
  | .lookupswitch d ps => (match e.2.2.1 with
    | dt :: ts => decide ((pc : Int) + d = (dt : Int)) && decide (ps.toList.map (fun o => (pc : Int) + o.2) = ts.map (fun t : Nat => (t : Int))) && ((ps.toList.zip (ps.toList.drop 1)).all (fun (a, next) => a.1 < next.1))
    | _ => false)
  | .invokevirtual idx => Nat.beq e.2.1 (pc + 3) && (match e.2.2.2.2 with
    | y :: n :: v :: ci :: p1 :: p2 :: p3 :: p4 :: p5 :: _ => am_cw dp y n v p4 p5 && am_isw p1 (.methodLink own idx (am_mi y).1) && am_isw p2 (.instanceMethod (am_mi y).1) && am_isw p3 (.selects (am_mi y).1.cls (am_mi y).1 (am_mi y).1) && decide ((am_cls[ci]?).map (fun q => q.1) = some (am_mi y).1.cls)
    | _ => false)
  | .invokestatic idx => Nat.beq e.2.1 (pc + 3) && (match e.2.2.2.2 with
    | y :: n :: v :: kd :: p1 :: p2 :: p3 :: p4 :: _ => bif Nat.beq v 9 then (Nat.blt 0 dp && am_isw p1 (.methodLink own idx arraycopyName) && am_isw p2 (.native arraycopyName) && am_isw p3 (.static arraycopyName) && am_isw p4 (.initialized "java/lang/System"))
      else (am_cw dp y n v p3 p4 && am_isw p2 (.static (am_mi y).1) && (bif Nat.beq kd 0 then am_isw p1 (.methodLink own idx (am_mi y).1) else (decide (lw_tbl[p1]? = some (.methodLinkNest own idx (am_mi y).1 "RoofMattress")))))
    | _ => false)
  | .ireturn => !rv && Nat.beq e.2.1 (pc + 1)
  | .return_ => rv && Nat.beq e.2.1 (pc + 1)
  | _ => false
def am_okE (cc : ByteArray) (own : String) (nL dp : Nat) (rv : Bool) (pc : Nat) (e : am_AE) : Bool := decide (decode cc pc = .ok (e.1, e.2.1 - pc)) && am_okI own nL dp rv pc e
theorem am_beq {a b : Nat} (h : Nat.beq a b = true) : a = b := Nat.eq_of_beq_eq_true h
theorem am_blt {a b : Nat} (h : Nat.blt a b = true) : a < b := Nat.le_of_ble_eq_true h
theorem am_ble {a b : Nat} (h : Nat.ble a b = true) : a ≤ b := Nat.le_of_ble_eq_true h
theorem am_and2 {a b : Bool} (h : (a && b) = true) : a = true ∧ b = true := by
  cases a <;> cases b <;> simp_all
end
section
/-! the surroundings of a method: tables, static arrays, distinct cells -/
def am_least : Nat → Int := fun j => ([1, 1, 0, 0, 0, 0, 1, 10, 0] : List Int).getD j 0
def am_most : Nat → Int := fun j => ([99, 40, 999, 3, 99, 9, 20, 70, 30] : List Int).getD j 0
def am_ofI (f : Nat → Int) : Nat → Int32 := fun j => Int32.ofInt (f j)
def am_Env (g : am_G) (A : Nat → Prop) (U : State) (H : Heap) : Prop :=
  va_K g.1 am_cls [(g.2.2.1, .int), (g.2.2.2, .boolean)] U ∧ (∀ w ∈ am_nt, va_Nw w U) ∧ am_inj g ∧
  (va_X (g.2.1 63) 9 (am_ofI am_least) U H ∧ ¬ A (g.2.1 63) ∧ va_Z "RoofMattress$Reader" "LEAST" "[I" (.ref (g.2.1 63)) A U H) ∧
  (va_X (g.2.1 64) 9 (am_ofI am_most) U H ∧ ¬ A (g.2.1 64) ∧ va_Z "RoofMattress$Reader" "MOST" "[I" (.ref (g.2.1 64)) A U H)
theorem am_X_lt {b L : Nat} {xs : Nat → Int32} {U : State} {H : Heap} (h : va_X b L xs U H) : b < H.size := by
  obtain ⟨scr, h1, -⟩ := h
  exact (Array.getElem?_eq_some_iff.mp h1).1
theorem am_Env.calling {g : am_G} {A : Nat → Prop} {U : State} {gf : JFrame} {mk : MethodId} {a : Array Value} (h : am_Env g A U U.heap) : am_Env g A (U.calling gf mk a) (U.calling gf mk a).heap := by
  obtain ⟨h1, h2, h3, ⟨a1, a2, a3⟩, b1, b2, b3⟩ := h
  have hv : U.vm.Alike (U.calling gf mk a).vm := Vm.Alike.refl U.vm
  refine ⟨va_K.moved (u := U) (U := U.calling gf mk a) (Vm.Alike.refl U.vm) h1, fun w hw => ?_, h3, ⟨va_X.moved (u := U) (U := U.calling gf mk a) hv a1, a2, va_Z.moved (u := U) (U := U.calling gf mk a) hv a3⟩, va_X.moved (u := U) (U := U.calling gf mk a) hv b1, b2, va_Z.moved (u := U) (U := U.calling gf mk a) hv b3⟩
  have hn := (List.mem_filter.mp hw).2
  cases w with
  | methodLinkNest c i y hst => exact va_Nw.same (u := U) (U := U.calling gf mk a) rfl rfl (h2 _ hw)
  | _ => cases hn
/-- at a call: another state of the same tables, with the heap as it is now -/
theorem am_Env.at {g : am_G} {A B : Nat → Prop} {s U : State} {H : Heap} {locs : List Loc} (h : am_Env g A s s.heap) (hS : va_S A s.heap H locs) (hBA : ∀ q, B q → A q) (hU : U.heap = H) (hW : s.WarmedH U.vm) : am_Env g B U U.heap := by
  obtain ⟨h1, h2, h3, ⟨a1, a2, a3⟩, b1, b2, b3⟩ := h
  have kx : ∀ {b L : Nat} {xs : Nat → Int32}, va_X b L xs s s.heap → ¬ A b → va_X b L xs U U.heap := fun {b L xs} hx hb => by
    rw [hU]
    exact va_X.moved hW.alike (hx.kept (hS.2.1 b (am_X_lt hx) hb))
  have kz : ∀ {C n d : String} {v : Value}, va_Z C n d v A s s.heap → va_Z C n d v B U U.heap := fun {C n d v} hz => by
    rw [hU]
    exact va_Z.moved hW.alike ((hz.kept (fun a ha hna => hS.2.1 a ha hna)).narrow hBA)
  refine ⟨va_K.moved hW.alike h1, fun w hw => ?_, h3, ⟨kx a1 a2, fun z => a2 (hBA _ z), kz a3⟩, kx b1 b2, fun z => b2 (hBA _ z), kz b3⟩
  have hn := (List.mem_filter.mp hw).2
  cases w with
  | methodLinkNest c i y hst => exact va_Nw.warmM hW (h2 _ hw)
  | _ => cases hn
def am_rmd (d : Nat) : Room := { frames := d, cells := 0, slots := 0, locals := 36 * d }
def am_B (g : am_G) (mem : am_Mem) (U : State) : Prop := va_P g.1 am_cls (am_wo g mem) U.heap ∧ am_Env g (am_A g) U U.heap
def am_Qc (g : am_G) (rv : Bool) (Q : am_Po) : Array Value → State → Outcome → State → Prop := fun _ st oc t =>
  (∃ (z : Int) (mem' : am_Mem), oc = .returned (bif rv then none else some (.int (Int32.ofInt z))) ∧ Q z mem' ∧ am_inR z ∧ am_okm mem' ∧ va_P g.1 am_cls (am_wo g mem') t.heap) ∧ va_F (am_A g) st t
def am_isV (r : Option FieldType) : Bool := match r with
  | none => true
  | some _ => false
/-- the contract of method y, by its number -/
def am_Mt (l : Launch) (g : am_G) (y : Nat) (as : List am_AV) (mem : am_Mem) (Q : am_Po) : Prop :=
  am_oks as → am_okm mem → Met l (am_mi y).1 (.code (am_mi y).1 (am_mi y).2.1 (am_mi y).2.2.1 (am_mi y).2.2.2.1 :: am_gt) (am_rmd (am_mi y).2.2.2.2.1) (va_Pc (as.map (am_vl g.2.1)) (am_B g mem)) (am_Qc g (am_isV (am_mi y).2.2.2.1) Q) 0 0 (am_A g)
theorem am_B.blind {g : am_G} {mem : am_Mem} {as : List Value} : FrameBlind (va_Pc as (am_B g mem)) := by
  intro a U gf mk h
  obtain ⟨h1, h2, h3⟩ := h
  exact ⟨h1, h2, h3.calling⟩
section AMC
variable {p : Program} {l : Launch} {e : Env} {R : Room} {s : State} {m : MethodId} {args : Array Value} {below : List Frame} {meth : Method} {c : Code} {H : Heap} {locs : List Loc} {cells slots : Nat} {Qf : State → Prop}
variable {pc : Nat} {L : Array Slot} {rest st0 : List Value} {a : Array Value} {A : Nat → Prop} {g : am_G}
/-- behind a call -/
theorem am_callk {rv : Bool} {Qc : am_Po} (hr : va_Run p l e R s m args below meth c H locs cells slots 0 0 (F0 m pc L st0) rest (am_Qc g rv Qc a) (am_A g)) (hS : va_S A s.heap H locs) (hAA : ∀ q, am_A g q → A q)
    (kk : ∀ (z : Int) (mem' : am_Mem) (H1 : Heap) (locs1 : List Loc), Qc z mem' → am_inR z → am_okm mem' → va_P g.1 am_cls (am_wo g mem') H1 → va_S A s.heap H1 locs1 → W p l e R s m args below meth c H1 locs1 cells slots Qf (F0 m (pc + 3) L (bif rv then rest else .int (Int32.ofInt z) :: rest))) : W p l e R s m args below meth c H locs cells slots Qf (F0 m pc L st0) := by
  intro T hT X
  obtain ⟨v, st₀, t, T', Lq, h0, X', hL, e1, e2, ⟨⟨z, mem', hv, hq, hz, hm, hP⟩, hsz, hk⟩, st⟩ := hr T hT X
  rw [h0] at hsz hk
  have hv' : v = bif rv then none else some (.int (Int32.ofInt z)) := by cases hv; rfl
  obtain ⟨t2, a1, b1⟩ := kk z mem' T'.heap (locs ++ Lq) hq hz hm (by rw [e1]; exact hP)
    ⟨Nat.le_trans hS.1 (by rw [e1]; exact hsz), fun q h1 h2 => by rw [e1, hk q (Nat.lt_of_lt_of_le h1 hS.1) (fun z => h2 (hAA q z))]; exact hS.2.1 q h1 h2, fun q hq => by
      rcases List.mem_append.mp hq with h | h
      · exact hS.2.2 q h
      · exact hAA _ (hL q h)⟩ T' rfl X'
  refine ⟨t2, st t2 ?_, b1⟩
  subst hv'
  cases rv <;> exact a1
end AMC
theorem am_take_ok : ∀ (n : Nat) (st acc as r : List am_AV), am_take n st acc = some (as, r) → ∃ pre, st = pre ++ r ∧ pre.length = n ∧ as = pre.reverse ++ acc
  | 0, st, acc, as, r, h => by
    simp only [am_take, Option.some.injEq, Prod.mk.injEq] at h
    obtain ⟨rfl, rfl⟩ := h
    exact ⟨[], rfl, rfl, rfl⟩
  | n + 1, v :: st, acc, as, r, h => by
    simp only [am_take] at h
    obtain ⟨pre, h1, h2, h3⟩ := am_take_ok n st (v :: acc) as r h
    exact ⟨v :: pre, by rw [h1]; rfl, by simp [h2], by rw [h3]; simp⟩
  | n + 1, [], _, _, _, h => by simp [am_take] at h
theorem am_take_st {n : Nat} {st as r : List am_AV} (h : am_take n st [] = some (as, r)) (f : am_AV → Value) : st.map f = (as.map f).reverse ++ r.map f ∧ as.length = n ∧ (am_oks st → am_oks as ∧ am_oks r) := by
  obtain ⟨pre, h1, h2, h3⟩ := am_take_ok n st [] as r h
  simp only [List.append_nil] at h3
  subst h1; subst h3
  refine ⟨by simp, by simp [h2], fun ho => ⟨fun v hv => ho v ?_, fun v hv => ho v ?_⟩⟩
  · exact List.mem_append_left _ (List.mem_reverse.mp hv)
  · exact List.mem_append_right _ hv
theorem am_cat (ad : Nat → Nat) : ∀ (st : List am_AV), ((st.map (am_vl ad)).map fun v => v.category).sum ≤ 2 * st.length
  | [] => by simp
  | v :: r => by
    have h := am_cat ad r
    have h1 : (am_vl ad v).category ≤ 2 := by
      rcases lv_cat (am_vl ad v) with h | h <;> omega
    simp only [List.map_cons, List.sum_cons, List.length_cons]
    omega
theorem am_lget_mem : ∀ {ls : am_Lc} {i : Nat} {v : am_AV}, am_lget ls i = some v → (i, v) ∈ ls
  | [], i, v, h => by simp [am_lget] at h
  | q :: r, i, v, h => by
    unfold am_lget at h
    cases hb : Nat.beq i q.1 with
    | true =>
      rw [hb] at h
      simp only [cond_true, Option.some.injEq] at h
      have := Nat.eq_of_beq_eq_true hb
      subst this; subst h
      exact List.mem_cons_self
    | false =>
      rw [hb] at h
      simp only [cond_false] at h
      exact List.mem_cons_of_mem _ (am_lget_mem h)
theorem am_ldel_mem {i : Nat} : ∀ {ls : am_Lc} {q : Nat × am_AV}, q ∈ am_ldel i ls → q ∈ ls ∧ q.1 ≠ i ∧ ¬ (q.1 + 1 = i ∧ am_isl q.2 = true)
  | [], q, h => by simp [am_ldel] at h
  | p :: r, q, h => by
    unfold am_ldel at h
    cases hb : (Nat.beq p.1 i || (Nat.beq (p.1 + 1) i && am_isl p.2)) with
    | true =>
      rw [hb] at h
      obtain ⟨h1, h2⟩ := am_ldel_mem (ls := r) h
      exact ⟨List.mem_cons_of_mem _ h1, h2⟩
    | false =>
      rw [hb] at h
      rcases List.mem_cons.mp h with rfl | h
      · simp only [Bool.or_eq_false_iff, Bool.and_eq_false_iff] at hb
        refine ⟨List.mem_cons_self, fun e => ?_, fun e => ?_⟩
        · have := Nat.beq_eq ▸ e
          simp_all
        · rcases hb.2 with h1 | h1
          · have := e.1
            simp_all
          · rw [e.2] at h1; cases h1
      · obtain ⟨h1, h2⟩ := am_ldel_mem (ls := r) h
        exact ⟨List.mem_cons_of_mem _ h1, h2⟩
theorem am_lde2_mem {i : Nat} : ∀ {ls : am_Lc} {q : Nat × am_AV}, q ∈ am_lde2 i ls → q ∈ ls ∧ q.1 ≠ i ∧ q.1 ≠ i + 1 ∧ ¬ (q.1 + 1 = i ∧ am_isl q.2 = true)
  | [], q, h => by simp [am_lde2] at h
  | p :: r, q, h => by
    unfold am_lde2 at h
    cases hb : (Nat.beq p.1 i || (Nat.beq p.1 (i + 1) || (Nat.beq (p.1 + 1) i && am_isl p.2))) with
    | true =>
      rw [hb] at h
      obtain ⟨h1, h2⟩ := am_lde2_mem (ls := r) h
      exact ⟨List.mem_cons_of_mem _ h1, h2⟩
    | false =>
      rw [hb] at h
      rcases List.mem_cons.mp h with rfl | h
      · simp only [Bool.or_eq_false_iff, Bool.and_eq_false_iff] at hb
        refine ⟨List.mem_cons_self, fun e => ?_, fun e => ?_, fun e => ?_⟩
        · simp_all
        · simp_all
        · rcases hb.2.2 with h1 | h1
          · have := e.1
            simp_all
          · rw [e.2] at h1; cases h1
      · obtain ⟨h1, h2⟩ := am_lde2_mem (ls := r) h
        exact ⟨List.mem_cons_of_mem _ h1, h2⟩
theorem am_isl_cat {ad : Nat → Nat} {v : am_AV} (h : am_isl v = false) : (am_vl ad v).category = 1 := by
  match v with
  | .inl _ => rfl
  | .inr (.inl _) => rfl
  | .inr (.inr _) => cases h
abbrev am_lm (ad : Nat → Nat) (ls : am_Lc) : List (Nat × Value) := ls.map fun q => (q.1, am_vl ad q.2)
theorem am_has_del {ad : Nat → Nat} {L : Array Slot} {nL i : Nat} {ls : am_Lc} {v : am_AV} (h : lv_has L nL ((i, am_vl ad v) :: (am_lm ad ls).filter (fun q => !(q.1 == i) && !(q.1 + 1 == i && q.2.category == 2)))) : lv_has L nL (am_lm ad ((i, v) :: am_ldel i ls)) := by
  refine ⟨h.1, h.2.1, fun q hq => ?_⟩
  obtain ⟨w, hw, rfl⟩ := List.mem_map.mp hq
  rcases List.mem_cons.mp hw with rfl | hw
  · exact h.2.2 _ List.mem_cons_self
  · obtain ⟨h1, h2, h3⟩ := am_ldel_mem hw
    refine h.2.2 _ (List.mem_cons_of_mem _ (List.mem_filter.mpr ⟨List.mem_map.mpr ⟨w, h1, rfl⟩, ?_⟩))
    by_cases e : w.1 + 1 = i
    · have : am_isl w.2 = false := by
        cases hh : am_isl w.2 with
        | false => rfl
        | true => exact absurd ⟨e, hh⟩ h3
      simp [h2, am_isl_cat (ad := ad) this]
    · simp [h2, e]
theorem am_has_de2 {ad : Nat → Nat} {L : Array Slot} {nL i : Nat} {ls : am_Lc} {v : am_AV} (h : lv_has L nL ((i, am_vl ad v) :: (am_lm ad ls).filter (fun q => !(q.1 == i) && (!(q.1 == i + 1) && !(q.1 + 1 == i && q.2.category == 2))))) : lv_has L nL (am_lm ad ((i, v) :: am_lde2 i ls)) := by
  refine ⟨h.1, h.2.1, fun q hq => ?_⟩
  obtain ⟨w, hw, rfl⟩ := List.mem_map.mp hq
  rcases List.mem_cons.mp hw with rfl | hw
  · exact h.2.2 _ List.mem_cons_self
  · obtain ⟨h1, h2, h2', h3⟩ := am_lde2_mem hw
    refine h.2.2 _ (List.mem_cons_of_mem _ (List.mem_filter.mpr ⟨List.mem_map.mpr ⟨w, h1, rfl⟩, ?_⟩))
    by_cases e : w.1 + 1 = i
    · have : am_isl w.2 = false := by
        cases hh : am_isl w.2 with
        | false => rfl
        | true => exact absurd ⟨e, hh⟩ h3
      simp [h2, h2', am_isl_cat (ad := ad) this]
    · simp [h2, h2', e]
theorem am_has_get {ad : Nat → Nat} {L : Array Slot} {nL i : Nat} {ls : am_Lc} {v : am_AV} (h : lv_has L nL (am_lm ad ls)) (hg : am_lget ls i = some v) : L[i]? = some (.val (am_vl ad v)) :=
  h.2.2 (i, am_vl ad v) (List.mem_map.mpr ⟨(i, v), am_lget_mem hg, rfl⟩)
theorem am_okl_del {ls : am_Lc} {i : Nat} {v : am_AV} (h : am_okl ls) (hv : am_okv v) : am_okl ((i, v) :: am_ldel i ls) := fun q hq => by
  rcases List.mem_cons.mp hq with rfl | hq
  · exact hv
  · exact h q (am_ldel_mem hq).1
theorem am_okl_de2 {ls : am_Lc} {i : Nat} {v : am_AV} (h : am_okl ls) (hv : am_okv v) : am_okl ((i, v) :: am_lde2 i ls) := fun q hq => by
  rcases List.mem_cons.mp hq with rfl | hq
  · exact hv
  · exact h q (am_lde2_mem hq).1
theorem am_kp_ok {ad : Nat → Nat} {L : Array Slot} {nL : Nat} {ls : am_Lc} (h : lv_has L nL (am_lm ad ls)) (ho : am_okl ls) : ∀ {keep : List Nat} {vs : List am_AV}, am_kp ls keep = some vs → lv_has L nL (am_lm ad (keep.zip vs)) ∧ am_oks vs
  | [], vs, hk => by
    simp only [am_kp, Option.some.injEq] at hk
    subst hk
    exact ⟨⟨h.1, h.2.1, fun q hq => by simp at hq⟩, fun v hv => by simp at hv⟩
  | i :: r, vs, hk => by
    unfold am_kp at hk
    cases h1 : am_lget ls i with
    | none => rw [h1] at hk; cases hk
    | some v =>
      rw [h1] at hk
      cases h2 : am_kp ls r with
      | none => rw [h2] at hk; cases hk
      | some vr =>
        rw [h2] at hk
        simp only [Option.some.injEq] at hk
        subst hk
        obtain ⟨g1, g2⟩ := am_kp_ok h ho h2
        refine ⟨⟨h.1, h.2.1, fun q hq => ?_⟩, fun w hw => ?_⟩
        · simp only [am_lm, List.zip_cons_cons, List.map_cons, List.mem_cons] at hq
          rcases hq with rfl | hq
          · exact am_has_get h h1
          · exact g1.2.2 q hq
        · rcases List.mem_cons.mp hw with rfl | hw
          · exact ho _ (am_lget_mem h1)
          · exact g2 w hw
theorem am_oks_cons {v : am_AV} {st : List am_AV} (hv : am_okv v) (h : am_oks st) : am_oks (v :: st) := fun w hw => by
  rcases List.mem_cons.mp hw with rfl | hw
  · exact hv
  · exact h w hw
theorem am_oks_tl {v : am_AV} {st : List am_AV} (h : am_oks (v :: st)) : am_oks st := fun w hw => h w (List.mem_cons_of_mem _ hw)
theorem am_okm_up {mem : am_Mem} {a j : Nat} {z : Int} (h : am_okm mem) (hz : am_inR z) : am_okm (am_up mem a j z) := fun k i => by
  unfold am_up
  split
  · exact hz
  · exact h k i
theorem am_okm_cp {mem : am_Mem} {a sp b dp n : Nat} (h : am_okm mem) : am_okm (am_cp mem a sp b dp n) := fun k i => by
  unfold am_cp
  split
  · exact h _ _
  · exact h k i
end
section
/-! facts of the classes, by the kernel -/
def am_ty (ci : Nat) : Nat → FieldType := match ci with
  | 0 => tyX0 | 1 => tyX1 | 2 => tyX2 | 3 => tyX3 | 4 => tyX4 | 5 => tyX5 | 6 => tyX6 | 7 => tyX7 | 8 => tyX8 | 9 => tyX9 | _ => tyX10
theorem am_cls_ty : ∀ (ci : Nat) (q : vw_C), am_cls[ci]? = some q → ∀ k, k < q.2.2 → parseFieldDescriptor (q.2.1 k).2.2.1 = some (am_ty ci k)
  | 0, q, h => by cases h; exact tyX0_ok
  | 1, q, h => by cases h; exact tyX1_ok
  | 2, q, h => by cases h; exact tyX2_ok
  | 3, q, h => by cases h; exact tyX3_ok
  | 4, q, h => by cases h; exact tyX4_ok
  | 5, q, h => by cases h; exact tyX5_ok
  | 6, q, h => by cases h; exact tyX6_ok
  | 7, q, h => by cases h; exact tyX7_ok
  | 8, q, h => by cases h; exact tyX8_ok
  | 9, q, h => by cases h; exact tyX9_ok
  | 10, q, h => by cases h; exact tyX10_ok
  | n + 11, q, h => by simp [am_cls] at h
theorem am_cls_nm : ∀ (ci : Nat) (q : vw_C), am_cls[ci]? = some q → ∀ a, a < q.2.2 → ∀ b, b < q.2.2 → a ≠ b → (q.2.1 a).2.1 ≠ (q.2.1 b).2.1
  | 0, q, h => by cases h; exact nmX0
  | 1, q, h => by cases h; exact nmX1
  | 2, q, h => by cases h; exact nmX2
  | 3, q, h => by cases h; exact nmX3
  | 4, q, h => by cases h; exact nmX4
  | 5, q, h => by cases h; exact nmX5
  | 6, q, h => by cases h; exact nmX6
  | 7, q, h => by cases h; exact nmX7
  | 8, q, h => by cases h; exact nmX8
  | 9, q, h => by cases h; exact nmX9
  | 10, q, h => by cases h; exact nmX10
  | n + 11, q, h => by simp [am_cls] at h
def am_layp : List (List Nat) := [[285, 287, 289], [225, 227, 229], [244, 246, 248], [198, 200, 202, 204, 206, 208, 210, 212], [130, 132, 134, 136, 138, 140, 142, 144, 146, 148, 150, 152], [162, 164, 166, 168], [313, 315, 317, 319, 321, 323, 325, 327, 329, 331], [264, 266, 268, 270, 272], [73, 75], [345, 347, 349, 351, 353, 355, 357, 359, 361, 363, 365], [834, 836, 838, 840, 842, 844, 846, 848, 850, 852, 854, 856, 858, 860, 862, 864, 866, 868, 870, 872, 874, 876, 878, 880, 882, 884, 886, 888, 890, 892, 894, 896, 898, 900, 902, 904]]
def am_layok (q : vw_C) (ps : List Nat) : Bool := decide ((u_ws q.1 q.2.1 q.2.2).map some = ps.map (fun i => lw_tbl[i]?)) && (u_ws q.1 q.2.1 q.2.2).all goodWord
theorem am_lay_all : (am_cls.zip am_layp).all (fun q => am_layok q.1 q.2) = true := by decide +kernel
theorem am_lay_len : am_layp.length = 11 := by decide +kernel
theorem am_lays : ∀ (ci : Nat) (q : vw_C), am_cls[ci]? = some q → ∀ w ∈ u_ws q.1 q.2.1 q.2.2, w ∈ am_gt := by
  intro ci q h w hw
  have hl : ci < 11 := (List.getElem?_eq_some_iff.mp h).1
  obtain ⟨ps, hp⟩ : ∃ ps, am_layp[ci]? = some ps := ⟨am_layp[ci]'(by rw [am_lay_len]; exact hl), List.getElem?_eq_getElem _⟩
  have hz : (am_cls.zip am_layp)[ci]? = some (q, ps) := by
    rw [List.getElem?_zip_eq_some]
    exact ⟨h, hp⟩
  have := List.all_eq_true.mp am_lay_all _ (List.mem_of_getElem? hz)
  obtain ⟨h1, h2⟩ := am_and2 this
  have h1 := of_decide_eq_true h1
  have hm : some w ∈ ps.map (fun i => lw_tbl[i]?) := by
    rw [← h1]; exact List.mem_map.mpr ⟨w, hw, rfl⟩
  obtain ⟨i, -, hi⟩ := List.mem_map.mp hm
  exact List.mem_filter.mpr ⟨List.mem_of_getElem? hi, List.all_eq_true.mp h2 w hw⟩
/-- the shape's kinds of fields are those of the classes -/
def am_shk (c : am_SC) : Bool := match c with
  | .inl q => Nat.ble q.2 100000
  | .inr (ci, fks) => match am_cls[ci]? with
    | some q => Nat.beq fks.length q.2.2 && (fks.zip (List.range q.2.2)).all (fun x => match x.1 with
      | 0 => decide ((q.2.1 x.2).2.2.1 = "I")
      | 1 => decide ((q.2.1 x.2).2.2.1 = "Z")
      | _ => true)
    | none => false
theorem am_sh_all : am_SHL.all am_shk = true := by decide +kernel
theorem am_sh_arr {a n : Nat} {z : Bool} (h : am_SH a = some (.inl (z, n))) : n ≤ 100000 := am_ble (List.all_eq_true.mp am_sh_all _ (List.mem_of_getElem? h))
theorem am_sh_obj {a ci : Nat} {fks : List Nat} (h : am_SH a = some (.inr (ci, fks))) : ∃ q, am_cls[ci]? = some q ∧ fks.length = q.2.2 ∧ (∀ j, fks[j]? = some 0 → (q.2.1 j).2.2.1 = "I") ∧ (∀ j, fks[j]? = some 1 → (q.2.1 j).2.2.1 = "Z") := by
  have h0 := List.all_eq_true.mp am_sh_all _ (List.mem_of_getElem? h)
  unfold am_shk at h0
  cases hc : am_cls[ci]? with
  | none => simp [hc] at h0
  | some q =>
    simp only [hc] at h0
    obtain ⟨h1, h2⟩ := am_and2 h0
    have h1 := am_beq h1
    have key : ∀ j f, fks[j]? = some f → (match f with
      | 0 => decide ((q.2.1 j).2.2.1 = "I")
      | 1 => decide ((q.2.1 j).2.2.1 = "Z")
      | _ => true) = true := by
      intro j f hj
      have hl : j < fks.length := (List.getElem?_eq_some_iff.mp hj).1
      have hz : (fks.zip (List.range q.2.2))[j]? = some (f, j) := by
        rw [List.getElem?_zip_eq_some]
        exact ⟨hj, by rw [List.getElem?_range (by omega)]⟩
      exact List.all_eq_true.mp h2 _ (List.mem_of_getElem? hz)
    exact ⟨q, rfl, h1, fun j hj => of_decide_eq_true (key j 0 hj), fun j hj => of_decide_eq_true (key j 1 hj)⟩
end
section
/-! the abstract machine is sound: one instruction -/
def am_C (p : Program) (R : Room) (s : State) (m : MethodId) (args : Array Value) (c : Code) (cells slots : Nat) (cc : ByteArray) (own : String) (nL dp : Nat) (g : am_G) (A : Nat → Prop) (rom : Nat → Option (Nat × (Nat → Int))) : Prop :=
  (p.tables.exec = Jvm.exec ∧ c.code = cc ∧ c.maxLocals = nL ∧ s.vm.findClass own = some m.cls ∧ ∀ w ∈ am_gt, w.before args s = true) ∧ (dp ≤ R.frames ∧ 36 * dp ≤ R.locals ∧ cells ≤ R.cells ∧ slots ≤ R.slots) ∧ am_Env g A s s.heap ∧ (∀ k, k < 63 → A (g.2.1 k)) ∧
  (∀ k n f, rom k = some (n, f) → va_X (g.2.1 k) n (am_ofI f) s s.heap ∧ ¬ A (g.2.1 k) ∧ (n : Int) ≤ 2147483647 ∧ ∀ j, am_inR (f j))
def am_J (p : Program) (l : Launch) (e : Env) (R : Room) (s : State) (m : MethodId) (args : Array Value) (below : List Frame) (meth : Method) (c : Code) (cells slots : Nat) (Qf : State → Prop) (nL : Nat) (g : am_G) (A : Nat → Prop) (pc : Nat) (ls : am_Lc) (st : List am_AV) (mem : am_Mem) : Prop :=
  am_okl ls → am_oks st → am_okm mem → ∀ (H : Heap) (locs : List Loc) (L : Array Slot), va_P g.1 am_cls (am_wo g mem) H → va_S A s.heap H locs → lv_has L nL (am_lm g.2.1 ls) → W p l e R s m args below meth c H locs cells slots Qf (F0 m pc L (st.map (am_vl g.2.1)))
def am_Ret (p : Program) (l : Launch) (e : Env) (R : Room) (s : State) (m : MethodId) (args : Array Value) (below : List Frame) (meth : Method) (c : Code) (cells slots : Nat) (Qf : State → Prop) (cc : ByteArray) (g : am_G) (A : Nat → Prop) (rv rb : Bool) (Q : am_Po) : Prop :=
  (∀ (pc : Nat) (z : Int) (mem : am_Mem) (H : Heap) (locs : List Loc) (L : Array Slot), rv = false → decode cc pc = .ok (.ireturn, 1) → Q z mem → (rb = true → z = 0 ∨ z = 1) → am_inR z → am_okm mem → va_P g.1 am_cls (am_wo g mem) H → va_S A s.heap H locs → W p l e R s m args below meth c H locs cells slots Qf (F0 m pc L [.int (Int32.ofInt z)])) ∧
  (∀ (pc : Nat) (mem : am_Mem) (H : Heap) (locs : List Loc) (L : Array Slot), rv = true → decode cc pc = .ok (.return_, 1) → Q 0 mem → am_okm mem → va_P g.1 am_cls (am_wo g mem) H → va_S A s.heap H locs → W p l e R s m args below meth c H locs cells slots Qf (F0 m pc L []))
theorem am_nfw : nativeFrameWords "java/lang/System" "arraycopy" 5 ≤ 17 := by decide +kernel
theorem am_mul_R {x y z : Int} (h : x = y) (hz : am_inR y) : am_inR x := h ▸ hz
section SND
variable {p : Program} {l : Launch} {e : Env} {R : Room} {s : State} {m : MethodId} {args : Array Value} {below : List Frame} {meth : Method} {c : Code} {cells slots : Nat} {Qf : State → Prop} {cc : ByteArray} {own : String} {nL dp : Nat} {g : am_G} {A : Nat → Prop} {rom : Nat → Option (Nat × (Nat → Int))} {rv rb : Bool} {Q : am_Po}
theorem am_J_call (hC : am_C p R s m args c cells slots cc own nL dp g A rom) {y n v pc : Nat} {as r st : List am_AV} {ls : am_Lc} {mem : am_Mem} {pcode pini : Nat} {H : Heap} {locs : List Loc} {L : Array Slot} {Qc : am_Po}
    (hcw : am_cw dp y n v pcode pini = true) (hM : am_Mt l g y as mem Qc) (hoa : am_oks as) (hom : am_okm mem) (hor : am_oks r) (hol : am_okl ls) (hP : va_P g.1 am_cls (am_wo g mem) H) (hS : va_S A s.heap H locs) (hl : lv_has L nL (am_lm g.2.1 ls)) {st0 : List Value}
    (hrun : ∀ (mt : Met l (am_mi y).1 (.code (am_mi y).1 (am_mi y).2.1 (am_mi y).2.2.1 (am_mi y).2.2.2.1 :: am_gt) (am_rmd (am_mi y).2.2.2.2.1) (va_Pc (as.map (am_vl g.2.1)) (am_B g mem)) (am_Qc g (am_isV (am_mi y).2.2.2.1) Qc) 0 0 (am_A g)), va_Run p l e R s m args below meth c H locs cells slots 0 0 (F0 m pc L st0) (r.map (am_vl g.2.1)) (am_Qc g (am_isV (am_mi y).2.2.2.1) Qc (as.map (am_vl g.2.1)).toArray) (am_A g))
    (hk : ∀ z mem', Qc z mem' → am_J p l e R s m args below meth c cells slots Qf nL g A (pc + 3) ls (bif Nat.beq v 0 then r else .inl z :: r) mem') : W p l e R s m args below meth c H locs cells slots Qf (F0 m pc L st0) := by
  refine am_callk (hrun (hM hoa hom)) hS (fun q hq => ?_) (fun z mem' H1 locs1 hq hz hm' hP1 hS1 => ?_)
  · obtain ⟨k, hk, rfl⟩ := hq
    exact hC.2.2.2.1 k hk
  · have hv : am_isV (am_mi y).2.2.2.1 = Nat.beq v 0 := by
      have h1 := of_decide_eq_true (am_and2 hcw).2
      cases hr : (am_mi y).2.2.2.1 with
      | none => rw [hr] at h1; have := h1.mpr rfl; subst this; rfl
      | some t =>
        have : ¬ v = 0 := fun h => by have := h1.mp h; rw [hr] at this; cases this
        simp only [am_isV]
        cases hb : Nat.beq v 0 with
        | false => rfl
        | true => exact absurd (am_beq hb) this
    have := hk z mem' hq hol
    rw [hv]
    cases hb : Nat.beq v 0 with
    | true =>
      rw [hb] at this
      exact this hor hm' H1 locs1 L hP1 hS1 hl
    | false =>
      rw [hb] at this
      exact this (am_oks_cons hz hor) hm' H1 locs1 L hP1 hS1 hl
theorem am_cwB (hC : am_C p R s m args c cells slots cc own nL dp g A rom) {y n v pcode pini idx plink : Nat} (hcw : am_cw dp y n v pcode pini = true) (hl : am_isw plink (.methodLink own idx (am_mi y).1) = true) :
    CallB R s args own idx (am_mi y).1 (am_mi y).2.1 (am_mi y).2.2.1 (am_mi y).2.2.2.1 (.code (am_mi y).1 (am_mi y).2.1 (am_mi y).2.2.1 (am_mi y).2.2.2.1 :: am_gt) (am_rmd (am_mi y).2.2.2.2.1) 0 0 n := by
  obtain ⟨⟨hx, hb, hml, hown, hts⟩, ⟨hfr, hlo, hce, hsl⟩, -⟩ := hC
  obtain ⟨h1, h8⟩ := am_and2 hcw
  obtain ⟨h1, h7⟩ := am_and2 h1
  obtain ⟨h1, h6⟩ := am_and2 h1
  obtain ⟨h1, h5⟩ := am_and2 h1
  obtain ⟨h1, h4⟩ := am_and2 h1
  obtain ⟨h1, h3⟩ := am_and2 h1
  obtain ⟨h1, h2⟩ := am_and2 h1
  have h6 := am_blt h6
  have h7 := am_ble h7
  exact callB_of n hts (am_good_code (ws := []) (am_isw_mem h1)) rfl rfl rfl (hts _ (am_isw_mem h2)) (hts _ (am_isw_mem hl)) ⟨of_decide_eq_true h4, of_decide_eq_true h5, of_decide_eq_true h3⟩ ⟨by show (am_mi y).2.2.2.2.1 + 1 ≤ _; omega, by show 8 + (_ + 11) + 36 * (am_mi y).2.2.2.2.1 ≤ _; omega⟩
theorem am_cwN (hC : am_C p R s m args c cells slots cc own nL dp g A rom) {y n v pcode pini idx : Nat} (hcw : am_cw dp y n v pcode pini = true) (hl : Cond.methodLinkNest own idx (am_mi y).1 "RoofMattress" ∈ am_nt) :
    va_CN R s args own idx (am_mi y).1 "RoofMattress" (am_mi y).2.1 (am_mi y).2.2.1 (am_mi y).2.2.2.1 (.code (am_mi y).1 (am_mi y).2.1 (am_mi y).2.2.1 (am_mi y).2.2.2.1 :: am_gt) (am_rmd (am_mi y).2.2.2.2.1) 0 0 n := by
  obtain ⟨⟨hx, hb, hml, hown, hts⟩, ⟨hfr, hlo, hce, hsl⟩, hEnv, -⟩ := hC
  obtain ⟨h1, h8⟩ := am_and2 hcw
  obtain ⟨h1, h7⟩ := am_and2 h1
  obtain ⟨h1, h6⟩ := am_and2 h1
  obtain ⟨h1, h5⟩ := am_and2 h1
  obtain ⟨h1, h4⟩ := am_and2 h1
  obtain ⟨h1, h3⟩ := am_and2 h1
  obtain ⟨h1, h2⟩ := am_and2 h1
  have h6 := am_blt h6
  have h7 := am_ble h7
  exact va_cnB n hts (am_good_code (ws := []) (am_isw_mem h1)) rfl rfl rfl (hEnv.2.1 _ hl) (hts _ (am_isw_mem h2)) ⟨of_decide_eq_true h4, of_decide_eq_true h5, of_decide_eq_true h3⟩ ⟨by show (am_mi y).2.2.2.2.1 + 1 ≤ _; omega, by show 8 + (_ + 11) + 36 * (am_mi y).2.2.2.2.1 ≤ _; omega⟩
theorem am_preS (hC : am_C p R s m args c cells slots cc own nL dp g A rom) {mem : am_Mem} {H : Heap} {locs : List Loc} (hP : va_P g.1 am_cls (am_wo g mem) H) (hS : va_S A s.heap H locs) (as : List Value) : PreS s H (va_Pc as (am_B g mem)) as := by
  refine ⟨am_B.blind, fun U hU hW => ⟨rfl, by rw [hU]; exact hP, hC.2.2.1.at hS (fun q hq => ?_) hU hW⟩⟩
  obtain ⟨k, hk, rfl⟩ := hq
  exact hC.2.2.2.1 k hk
end SND
end
section
section STP
variable {p : Program} {l : Launch} {e : Env} {R : Room} {s : State} {m : MethodId} {args : Array Value} {below : List Frame} {meth : Method} {c : Code} {cells slots : Nat} {Qf : State → Prop} {cc : ByteArray} {own : String} {nL dp : Nat} {g : am_G} {A : Nat → Prop} {rom : Nat → Option (Nat × (Nat → Int))} {rv rb : Bool} {Q : am_Po}
theorem am_e1 {pc npc k : Nat} (h : Nat.beq npc (pc + k) = true) {cc : ByteArray} {I : Instr} (hd : decode cc pc = .ok (I, npc - pc)) : npc = pc + k ∧ decode cc pc = .ok (I, k) := by
  have := am_beq h
  subst this
  rw [Nat.add_sub_cancel_left] at hd
  exact ⟨rfl, hd⟩
theorem am_brOK {c : Jvm.ClassFile.Cond} {x y : Int} {kt kf : Prop} (h : am_br c x y kt kf) : match c with
  | .eq => (x = y → kt) ∧ (¬ x = y → kf)
  | .ne => (¬ x = y → kt) ∧ (x = y → kf)
  | .lt => (x < y → kt) ∧ (y ≤ x → kf)
  | .ge => (y ≤ x → kt) ∧ (x < y → kf)
  | .gt => (y < x → kt) ∧ (x ≤ y → kf)
  | .le => (x ≤ y → kt) ∧ (y < x → kf) := by
  cases c <;> exact h
set_option maxHeartbeats 4000000 in
theorem am_step_br (hC : am_C p R s m args c cells slots cc own nL dp g A rom) {pc t : Nat} {ls : am_Lc} {st : List am_AV} {mem : am_Mem} {x y : Int} {cd : Jvm.ClassFile.Cond} {off : Int} (hx : am_inR x) (hy : am_inR y) (hd : decode cc pc = .ok (.if_icmp cd off, 3)) (ht : (pc : Int) + off = (t : Int)) {H : Heap} {locs : List Loc} {L : Array Slot}
    (h : am_br cd x y (W p l e R s m args below meth c H locs cells slots Qf (F0 m t L (st.map (am_vl g.2.1)))) (W p l e R s m args below meth c H locs cells slots Qf (F0 m (pc + 3) L (st.map (am_vl g.2.1))))) :
    W p l e R s m args below meth c H locs cells slots Qf (F0 m pc L (.int (Int32.ofInt y) :: .int (Int32.ofInt x) :: st.map (am_vl g.2.1))) := by
  obtain ⟨⟨hex, hb, hml, hown, hts⟩, -⟩ := hC
  have h := am_brOK h
  cases cd with
  | eq => exact lv_icmp_eq hex hb hd ht (fun z => h.1 ((am_eq hx hy).mp z)) (fun z => h.2 (fun w => z ((am_eq hx hy).mpr w)))
  | ne => exact lv_icmp_ne hex hb hd ht (fun z => h.1 (fun w => z ((am_eq hx hy).mpr w))) (fun z => h.2 ((am_eq hx hy).mp z))
  | lt => exact lv_icmp_lt hex hb hd ht (fun z => h.1 ((am_lt hx hy).mp z)) (fun z => h.2 (by rw [am_lt hx hy] at z; omega))
  | ge => exact lv_icmp_ge hex hb hd ht (fun z => h.1 ((am_le hy hx).mp z)) (fun z => h.2 (by rw [am_le hy hx] at z; omega))
  | gt => exact lv_icmp_gt hex hb hd ht (fun z => h.1 ((am_lt hy hx).mp z)) (fun z => h.2 (by rw [am_lt hy hx] at z; omega))
  | le => exact lv_icmp_le hex hb hd ht (fun z => h.1 ((am_le hx hy).mp z)) (fun z => h.2 (by rw [am_le hx hy] at z; omega))
set_option maxHeartbeats 4000000 in
theorem am_step_b0 (hC : am_C p R s m args c cells slots cc own nL dp g A rom) {pc t : Nat} {ls : am_Lc} {st : List am_AV} {mem : am_Mem} {x : Int} {cd : Jvm.ClassFile.Cond} {off : Int} (hx : am_inR x) (hd : decode cc pc = .ok (.ifCond cd off, 3)) (ht : (pc : Int) + off = (t : Int)) {H : Heap} {locs : List Loc} {L : Array Slot}
    (h : am_br cd x 0 (W p l e R s m args below meth c H locs cells slots Qf (F0 m t L (st.map (am_vl g.2.1)))) (W p l e R s m args below meth c H locs cells slots Qf (F0 m (pc + 3) L (st.map (am_vl g.2.1))))) :
    W p l e R s m args below meth c H locs cells slots Qf (F0 m pc L (.int (Int32.ofInt x) :: st.map (am_vl g.2.1))) := by
  obtain ⟨⟨hex, hb, hml, hown, hts⟩, -⟩ := hC
  have h := am_brOK h
  have e0 : Int32.ofInt x = 0 ↔ x = 0 := by rw [am_0, am_eq hx am_in0]
  have e1 : Int32.ofInt x < 0 ↔ x < 0 := by rw [am_0, am_lt hx am_in0]
  have e2 : 0 ≤ Int32.ofInt x ↔ 0 ≤ x := by rw [am_0, am_le am_in0 hx]
  have e3 : 0 < Int32.ofInt x ↔ 0 < x := by rw [am_0, am_lt am_in0 hx]
  have e4 : Int32.ofInt x ≤ 0 ↔ x ≤ 0 := by rw [am_0, am_le hx am_in0]
  cases cd with
  | eq => exact lv_if_eq hex hb hd ht (fun z => h.1 (e0.mp z)) (fun z => h.2 (fun w => z (e0.mpr w)))
  | ne => exact lv_if_ne hex hb hd ht (fun z => h.1 (fun w => z (e0.mpr w))) (fun z => h.2 (e0.mp z))
  | lt => exact lv_if_lt hex hb hd ht (fun z => h.1 (e1.mp z)) (fun z => h.2 (by rw [e1] at z; omega))
  | ge => exact lv_if_ge hex hb hd ht (fun z => h.1 (e2.mp z)) (fun z => h.2 (by rw [e2] at z; omega))
  | gt => exact lv_if_gt hex hb hd ht (fun z => h.1 (e3.mp z)) (fun z => h.2 (by rw [e3] at z; omega))
  | le => exact lv_if_le hex hb hd ht (fun z => h.1 (e4.mp z)) (fun z => h.2 (by rw [e4] at z; omega))
theorem am_br_map {c : Jvm.ClassFile.Cond} {x y : Int} {a b a' b' : Prop} (ha : a → a') (hb : b → b') (h : am_br c x y a b) : am_br c x y a' b' := by
  cases c <;> exact ⟨fun z => ha (h.1 z), fun z => hb (h.2 z)⟩
theorem am_tsw_ok {x : Int} {d : Prop} {k : Nat → Prop} : ∀ (ts : List Nat) (lo : Int), am_tsw x d k lo ts → (lo ≤ x → (x < lo + ts.length → ∃ t, ts[(x - lo).toNat]? = some t ∧ k t) ∧ (lo + ts.length ≤ x → d))
  | [], lo, h, hx => ⟨fun h1 => by simp at h1; omega, fun _ => h hx⟩
  | t :: r, lo, h, hx => by
    obtain ⟨h1, h2⟩ := h
    by_cases e : x = lo
    · subst e
      refine ⟨fun _ => ⟨t, by simp, h1 rfl⟩, fun h3 => ?_⟩
      simp only [List.length_cons] at h3
      omega
    · obtain ⟨g1, g2⟩ := am_tsw_ok r (lo + 1) h2 (by omega)
      simp only [List.length_cons]
      refine ⟨fun h3 => ?_, fun h3 => g2 (by omega)⟩
      obtain ⟨t', a, b⟩ := g1 (by omega)
      refine ⟨t', ?_, b⟩
      rw [show (x - lo).toNat = (x - (lo + 1)).toNat + 1 by omega]
      simpa using a
theorem am_lsw_ok {x : Int} {d : Prop} {k : Nat → Prop} {pc : Int} {dflt : Int} {dt : Nat} (hdt : pc + dflt = (dt : Int)) (hd : d → k dt) : ∀ (ps : List (Int × Int)) (ts : List Nat), ps.map (fun o => pc + o.2) = ts.map (fun t : Nat => (t : Int)) → am_lsw x d k ps ts → ∃ (off : Int) (t : Nat), Op.lookupswitch.offset ps dflt x = off ∧ pc + off = (t : Int) ∧ k t
  | [], [], _, h => ⟨dflt, dt, rfl, hdt, hd h⟩
  | [], _ :: _, h, _ => by simp at h
  | _ :: _, [], h, _ => by simp at h
  | (a, o) :: ps, t :: ts, h, h2 => by
    simp only [List.map_cons, List.cons.injEq] at h
    obtain ⟨h1, h3⟩ := h2
    by_cases e : x = a
    · exact ⟨o, t, by simp [Op.lookupswitch.offset, e], h.1, h1 e⟩
    · obtain ⟨off, t', g1, g2, g3⟩ := am_lsw_ok hdt hd ps ts h.2 (h3 e)
      exact ⟨off, t', by simp [Op.lookupswitch.offset, g1]; exact fun w => absurd w.symm e, g2, g3⟩
end STP
end
section
section STQ
variable {p : Program} {l : Launch} {e : Env} {R : Room} {s : State} {m : MethodId} {args : Array Value} {below : List Frame} {meth : Method} {c : Code} {cells slots : Nat} {Qf : State → Prop} {cc : ByteArray} {own : String} {nL dp : Nat} {g : am_G} {A : Nat → Prop} {rom : Nat → Option (Nat × (Nat → Int))} {rv rb : Bool} {Q : am_Po}
theorem am_o1_ok {o : Option am_AV} {f : Int → Prop} (h : am_o1 o f) : ∃ z, o = some (.inl z) ∧ f z := by
  match o, h with
  | some (.inl z), h => exact ⟨z, rfl, h⟩
theorem am_oa_ok {o : Option am_AV} {f : Nat → Prop} (h : am_oa o f) : ∃ z, o = some (.inr (.inl z)) ∧ f z := by
  match o, h with
  | some (.inr (.inl z)), h => exact ⟨z, rfl, h⟩
theorem am_ol_ok {o : Option am_AV} {f : Int → Prop} (h : am_ol o f) : ∃ z, o = some (.inr (.inr z)) ∧ f z := by
  match o, h with
  | some (.inr (.inr z)), h => exact ⟨z, rfl, h⟩
theorem am_s1_ok {st : List am_AV} {f : Int → List am_AV → Prop} (h : am_s1 st f) : ∃ x r, st = .inl x :: r ∧ f x r := by
  match st, h with
  | .inl x :: r, h => exact ⟨x, r, rfl, h⟩
theorem am_sr_ok {st : List am_AV} {f : Nat → List am_AV → Prop} (h : am_sr st f) : ∃ x r, st = .inr (.inl x) :: r ∧ f x r := by
  match st, h with
  | .inr (.inl x) :: r, h => exact ⟨x, r, rfl, h⟩
theorem am_sl_ok {st : List am_AV} {f : Int → List am_AV → Prop} (h : am_sl st f) : ∃ x r, st = .inr (.inr x) :: r ∧ f x r := by
  match st, h with
  | .inr (.inr x) :: r, h => exact ⟨x, r, rfl, h⟩
abbrev am_Kk (p : Program) (l : Launch) (e : Env) (R : Room) (s : State) (m : MethodId) (args : Array Value) (below : List Frame) (meth : Method) (c : Code) (cells slots : Nat) (Qf : State → Prop) (nL : Nat) (g : am_G) (A : Nat → Prop) (k : Nat → am_Lc → List am_AV → am_Mem → Prop) : Prop := ∀ pc' ls' st' mem', k pc' ls' st' mem' → am_J p l e R s m args below meth c cells slots Qf nL g A pc' ls' st' mem'
def am_fval (g : am_G) (mem : am_Mem) (o j : Nat) (fk : Nat) : Value := match fk with
  | 0 => .int (Int32.ofInt (mem o j))
  | 1 => .int (Int32.ofInt (mem o j))
  | r + 2 => .ref (g.2.1 r)
set_option maxHeartbeats 4000000 in
/-- fields -/
theorem am_step_get (hC : am_C p R s m args c cells slots cc own nL dp g A rom) {pc : Nat} {ls : am_Lc} {st : List am_AV} {mem : am_Mem} {k : Nat → am_Lc → List am_AV → am_Mem → Prop} {idx ci j pl o : Nat} {fks : List Nat} {H : Heap} {locs : List Loc} {L : Array Slot}
    (hd : decode cc pc = .ok (.getfield idx, 3)) (hsh : am_SH o = some (.inr (ci, fks))) (hf : am_fw own idx ci j pl false = true) {fk : Nat} (hfk : fks[j]? = some fk) (hP : va_P g.1 am_cls (am_wo g mem) H)
    (kk : W p l e R s m args below meth c H locs cells slots Qf (F0 m (pc + 3) L (am_fval g mem o j fk :: st.map (am_vl g.2.1)))) : W p l e R s m args below meth c H locs cells slots Qf (F0 m pc L (.ref (g.2.1 o) :: st.map (am_vl g.2.1))) := by
  obtain ⟨⟨hex, hb, hml, hown, hts⟩, hR, hEnv, hA, hrom⟩ := hC
  obtain ⟨q, hq, hlen, -, -⟩ := am_sh_obj hsh
  unfold am_fw at hf
  rw [hq] at hf
  obtain ⟨h1, h3⟩ := am_and2 hf
  obtain ⟨h1, h2⟩ := am_and2 h1
  obtain ⟨C, T, N⟩ := q
  refine va_get hex hb hts (am_lays ci _ hq) hown hEnv.1 hP o (am_wo_get g mem hsh) hq j (am_blt h1) (hts _ (am_isw_mem h2)) (fun x hx => hx) (am_fv_get g.2.1 mem o fks 0 j fk hfk) hd ?_
  rw [Nat.zero_add]
  exact kk
set_option maxHeartbeats 4000000 in
theorem am_step_put (hC : am_C p R s m args c cells slots cc own nL dp g A rom) {pc : Nat} {st : List am_AV} {mem : am_Mem} {idx ci j pl o : Nat} {fks : List Nat} {H : Heap} {locs : List Loc} {L : Array Slot} {z : Int}
    (hd : decode cc pc = .ok (.putfield idx, 3)) (hsh : am_SH o = some (.inr (ci, fks))) (hf : am_fw own idx ci j pl true = true) (hfk : fks[j]? = some 0 ∨ (fks[j]? = some 1 ∧ (z = 0 ∨ z = 1))) (hP : va_P g.1 am_cls (am_wo g mem) H) (hS : va_S A s.heap H locs)
    (kk : ∀ (H1 : Heap) (locs1 : List Loc), va_P g.1 am_cls (am_wo g (am_up mem o j z)) H1 → va_S A s.heap H1 locs1 → W p l e R s m args below meth c H1 locs1 cells slots Qf (F0 m (pc + 3) L (st.map (am_vl g.2.1)))) : W p l e R s m args below meth c H locs cells slots Qf (F0 m pc L (.int (Int32.ofInt z) :: .ref (g.2.1 o) :: st.map (am_vl g.2.1))) := by
  obtain ⟨⟨hex, hb, hml, hown, hts⟩, hR, hEnv, hA, hrom⟩ := hC
  obtain ⟨q, hq, hlen, hI, hZ⟩ := am_sh_obj hsh
  unfold am_fw at hf
  rw [hq] at hf
  obtain ⟨h1, h3⟩ := am_and2 hf
  obtain ⟨h1, h2⟩ := am_and2 h1
  obtain ⟨C, T, N⟩ := q
  have hfin : (T j).2.2.2 = false := by simpa using h3
  have hj : j < fks.length := by rcases hfk with h | h <;> exact (List.getElem?_eq_some_iff.mp (by first | exact h | exact h.1)).1
  have hset : (am_wo g mem).set o (g.2.1 o, .inr (ci, (am_fv g.2.1 mem o 0 fks).set j (.int (Int32.ofInt z)))) = am_wo g (am_up mem o j z) := by
    have e := am_fv_set g.2.1 mem o z fks 0 j (by rcases hfk with h | h; exact Or.inl h; exact Or.inr h.1)
    rw [e, Nat.zero_add]
    exact am_wo_set g hsh (fun k hk c' => am_ce_ext g (fun i => am_up_ne hk) c')
  obtain ⟨ty, hd1, hn, hft⟩ : ∃ ty, parseFieldDescriptor (T j).2.2.1 = some ty ∧ narrow ty (.int (Int32.ofInt z)) = .int (Int32.ofInt z) ∧ fits ty (.int (Int32.ofInt z)) = true := by
    rcases hfk with h | ⟨h, hz⟩
    · exact ⟨.int, by rw [show (T j).2.2.1 = "I" from hI j h]; decide +kernel, rfl, rfl⟩
    · refine ⟨.boolean, by rw [show (T j).2.2.1 = "Z" from hZ j h]; decide +kernel, ?_, ?_⟩
      · rcases hz with rfl | rfl <;> decide +kernel
      · rcases hz with rfl | rfl <;> decide +kernel
  refine va_put hex hb hts (am_lays ci _ hq) (am_ty ci) (am_cls_ty ci _ hq) (am_cls_nm ci _ hq) hown hEnv.1 hP (am_wo_D hEnv.2.2.1 hA mem) hS o (am_wo_get g mem hsh) hq j (am_blt h1) (hts _ (am_isw_mem h2)) (fun x hx => hx) hfin hd1 hn hft (by rw [am_fv_len]; exact hj) hd (fun H1 locs1 hP1 hD1 hS1 => ?_)
  rw [hset] at hP1
  exact kk H1 locs1 hP1 hS1
theorem am_tysI {g : am_G} : ([(g.2.2.1, .int), (g.2.2.2, .boolean)] : List (ClassId × FieldType))[0]? = some (g.2.2.1, .int) := rfl
theorem am_tysZ {g : am_G} : ([(g.2.2.1, .int), (g.2.2.2, .boolean)] : List (ClassId × FieldType))[1]? = some (g.2.2.2, .boolean) := rfl
theorem am_arr_set {g : am_G} {mem mem' : am_Mem} {a n : Nat} {z : Bool} {f : Nat → Int32} (hsh : am_SH a = some (.inl (z, n))) (hf : f = fun j => Int32.ofInt (mem' a j)) (ho : ∀ k, k ≠ a → ∀ i, mem' k i = mem k i) : (am_wo g mem).set a (g.2.1 a, .inl (bif z then g.2.2.2 else g.2.2.1, n, .inl f)) = am_wo g mem' := by
  subst hf
  exact am_wo_set g hsh (fun k hk c' => am_ce_ext g (ho k hk) c')
set_option maxHeartbeats 4000000 in
theorem am_step_copy (hC : am_C p R s m args c cells slots cc own nL dp g A rom) {pc : Nat} {ls : am_Lc} {st : List am_AV} {mem : am_Mem} {idx p1 p2 p3 p4 a b na nb : Nat} {H : Heap} {locs : List Loc} {L : Array Slot} {sp dq n : Int}
    (hd : decode cc pc = .ok (.invokestatic idx, 3)) (h1 : am_isw p1 (.methodLink own idx arraycopyName) = true) (h2 : am_isw p2 (.native arraycopyName) = true) (h3 : am_isw p3 (.static arraycopyName) = true) (h4 : am_isw p4 (.initialized "java/lang/System") = true) (hdp : 0 < dp) (ha : am_SH a = some (.inl (false, na))) (hb : am_SH b = some (.inl (false, nb)))
    (hlen : st.length ≤ 4) (hsp : am_inR sp) (hdq : am_inR dq) (hn : am_inR n) (hc : 0 ≤ sp ∧ 0 ≤ dq ∧ 0 ≤ n ∧ sp + n ≤ na ∧ dq + n ≤ nb) (hP : va_P g.1 am_cls (am_wo g mem) H) (hS : va_S A s.heap H locs) (hl : lv_has L nL (am_lm g.2.1 ls))
    (kk : ∀ (H1 : Heap) (locs1 : List Loc), va_P g.1 am_cls (am_wo g (am_cp mem a sp.toNat b dq.toNat n.toNat)) H1 → va_S A s.heap H1 locs1 → W p l e R s m args below meth c H1 locs1 cells slots Qf (F0 m (pc + 3) L (st.map (am_vl g.2.1)))) : W p l e R s m args below meth c H locs cells slots Qf (F0 m pc L (.int (Int32.ofInt n) :: .int (Int32.ofInt dq) :: .ref (g.2.1 b) :: .int (Int32.ofInt sp) :: .ref (g.2.1 a) :: st.map (am_vl g.2.1))) := by
  obtain ⟨⟨hex, hbc, hml, hown, hts⟩, ⟨hfr, hlo, -, -⟩, hEnv, hA, hrom⟩ := hC
  obtain ⟨c1, c2, c3, c4, c5⟩ := hc
  have nn : ∀ {z : Int}, am_inR z → 0 ≤ z → ¬ Int32.ofInt z < 0 := fun {z} hz h0 => by rw [am_0, am_lt hz am_in0]; omega
  have hcat := am_cat g.2.1 st
  have hw := am_nfw
  refine va_copyi hex hbc (by rw [hml]; exact hl.1.symm) hown (hts _ (am_isw_mem h1)) (hts _ (am_isw_mem h2)) (hts _ (am_isw_mem h3)) (hts _ (am_isw_mem h4)) hEnv.1 hP (am_wo_D hEnv.2.2.1 hA mem) hS a b 0 0 (am_wo_get g mem ha) (am_wo_get g mem hb) am_tysI am_tysI rfl (nn hsp c1) (nn hdq c2) (nn hn c3) (by rw [am_clamp hsp c1, am_clamp hn c3]; omega) (by rw [am_clamp hdq c2, am_clamp hn c3]; omega) (fun i _ => rfl) (by omega) (by omega) hd (fun H1 locs1 hP1 hD1 hS1 => ?_)
  rw [am_clamp hsp c1, am_clamp hdq c2, am_clamp hn c3, am_arr_cp] at hP1
  have e := am_arr_set (g := g) (mem := mem) (mem' := am_cp mem a sp.toNat b dq.toNat n.toNat) hb rfl (fun k hk i => am_cp_ne hk)
  rw [e] at hP1
  exact kk H1 locs1 hP1 hS1
end STQ
end
section
section STR
variable {p : Program} {l : Launch} {e : Env} {R : Room} {s : State} {m : MethodId} {args : Array Value} {below : List Frame} {meth : Method} {c : Code} {cells slots : Nat} {Qf : State → Prop} {cc : ByteArray} {own : String} {nL dp : Nat} {g : am_G} {A : Nat → Prop} {rom : Nat → Option (Nat × (Nat → Int))} {rv rb : Bool} {Q : am_Po}
set_option maxHeartbeats 8000000 in
theorem am_step (hC : am_C p R s m args c cells slots cc own nL dp g A rom) (hret : am_Ret p l e R s m args below meth c cells slots Qf cc g A rv rb Q) {pc : Nat} {ae : am_AE} (hE : am_okE cc own nL dp rv pc ae = true) {k : Nat → am_Lc → List am_AV → am_Mem → Prop} (hk : am_Kk p l e R s m args below meth c cells slots Qf nL g A k)
    {ls : am_Lc} {st : List am_AV} {mem : am_Mem} (h : am_stp am_SH rom (am_Mt l g) rb ae ls st mem k Q) : am_J p l e R s m args below meth c cells slots Qf nL g A pc ls st mem := by
  intro hol hos hom H locs L hP hS hl
  have hC0 := hC
  obtain ⟨⟨hex, hb, hml, hown, hts⟩, ⟨hfr, hlo, hce, hsl⟩, hEnv, hA, hrom⟩ := hC
  obtain ⟨hd, hI⟩ := am_and2 hE
  have hd := of_decide_eq_true hd
  obtain ⟨I, npc, tgts, cst, res⟩ := ae
  have hD : va_D A (am_wo g mem) := am_wo_D hEnv.2.2.1 hA mem
  cases I with
  | iconst n =>
    obtain ⟨h1, h2⟩ := am_and2 hI
    obtain ⟨rfl, hd⟩ := am_e1 h2 hd
    exact lv_iconst hex hb hd rfl (hk _ _ _ _ h hol (am_oks_cons (am_inRb_ok h1) hos) hom H locs L hP hS hl)
  | bipush n =>
    obtain ⟨h1, h2⟩ := am_and2 hI
    obtain ⟨h1, h3⟩ := am_and2 h1
    obtain ⟨rfl, hd⟩ := am_e1 h2 hd
    exact lv_bipush hex hb hd (of_decide_eq_true h3) (hk _ _ _ _ h hol (am_oks_cons (am_inRb_ok h1) hos) hom H locs L hP hS hl)
  | sipush n =>
    obtain ⟨h1, h2⟩ := am_and2 hI
    obtain ⟨h1, h3⟩ := am_and2 h1
    obtain ⟨rfl, hd⟩ := am_e1 h2 hd
    exact lv_sipush hex hb hd (of_decide_eq_true h3) (hk _ _ _ _ h hol (am_oks_cons (am_inRb_ok h1) hos) hom H locs L hP hS hl)
  | ldc idx =>
    obtain ⟨h1, h3⟩ := am_and2 hI
    obtain ⟨h1, h2⟩ := am_and2 h1
    obtain ⟨rfl, hd⟩ := am_e1 h2 hd
    match res, h, h3 with
    | pl :: _, h, h3 => exact lv_ldc hex hb hown (hts _ (am_isw_mem h3)) hd (hk _ _ _ _ h hol (am_oks_cons (am_inRb_ok h1) hos) hom H locs L hP hS hl)
    | [], h, h3 => cases h3
  | ldc_w idx =>
    obtain ⟨h1, h3⟩ := am_and2 hI
    obtain ⟨h1, h2⟩ := am_and2 h1
    obtain ⟨rfl, hd⟩ := am_e1 h2 hd
    match res, h, h3 with
    | pl :: _, h, h3 => exact lv_ldcw hex hb hown (hts _ (am_isw_mem h3)) hd (hk _ _ _ _ h hol (am_oks_cons (am_inRb_ok h1) hos) hom H locs L hP hS hl)
    | [], h, h3 => cases h3
  | ldc2_w idx =>
    obtain ⟨h1, h3⟩ := am_and2 hI
    obtain ⟨h1, h2⟩ := am_and2 h1
    obtain ⟨rfl, hd⟩ := am_e1 h2 hd
    match res, h, h3 with
    | pl :: _, h, h3 => exact lv_ldc2 hex hb hown (hts _ (am_isw_mem h3)) hd (hk _ _ _ _ h hol (am_oks_cons (am_inLb_ok h1) hos) hom H locs L hP hS hl)
    | [], h, h3 => cases h3
  | iload i =>
    obtain ⟨rfl, hd⟩ := am_e1 hI hd
    obtain ⟨z, hz, h⟩ := am_o1_ok h
    exact lv_iload hex hb hd (am_has_get hl hz) (hk _ _ _ _ h hol (am_oks_cons (hol _ (am_lget_mem hz)) hos) hom H locs L hP hS hl)
  | iload_n i =>
    obtain ⟨rfl, hd⟩ := am_e1 hI hd
    obtain ⟨z, hz, h⟩ := am_o1_ok h
    exact lv_iload_n hex hb hd rfl (am_has_get hl hz) (hk _ _ _ _ h hol (am_oks_cons (hol _ (am_lget_mem hz)) hos) hom H locs L hP hS hl)
  | aload i =>
    obtain ⟨rfl, hd⟩ := am_e1 hI hd
    obtain ⟨z, hz, h⟩ := am_oa_ok h
    exact lv_aload hex hb hd (am_has_get hl hz) (hk _ _ _ _ h hol (am_oks_cons trivial hos) hom H locs L hP hS hl)
  | aload_n i =>
    obtain ⟨rfl, hd⟩ := am_e1 hI hd
    obtain ⟨z, hz, h⟩ := am_oa_ok h
    exact lv_aload_n hex hb hd rfl (am_has_get hl hz) (hk _ _ _ _ h hol (am_oks_cons trivial hos) hom H locs L hP hS hl)
  | lload_n i =>
    obtain ⟨rfl, hd⟩ := am_e1 hI hd
    obtain ⟨z, hz, h⟩ := am_ol_ok h
    exact lv_lload_n hex hb hd rfl (am_has_get hl hz) (hk _ _ _ _ h hol (am_oks_cons (hol _ (am_lget_mem hz)) hos) hom H locs L hP hS hl)
  | istore i =>
    obtain ⟨h1, h2⟩ := am_and2 hI
    obtain ⟨rfl, hd⟩ := am_e1 h2 hd
    obtain ⟨x, r, rfl, hN⟩ := am_s1_ok h; clear h; have h := hN; clear hN
    exact lv_istore hex hb hd hl (am_blt h1) rfl (fun L' hl' => hk _ _ _ _ h (am_okl_del hol (hos _ List.mem_cons_self)) (am_oks_tl hos) hom H locs L' hP hS (am_has_del (v := .inl x) hl'))
  | istore_n i =>
    obtain ⟨h1, h2⟩ := am_and2 hI
    obtain ⟨rfl, hd⟩ := am_e1 h2 hd
    obtain ⟨x, r, rfl, hN⟩ := am_s1_ok h; clear h; have h := hN; clear hN
    exact lv_istore_n hex hb hd rfl hl (am_blt h1) rfl (fun L' hl' => hk _ _ _ _ h (am_okl_del hol (hos _ List.mem_cons_self)) (am_oks_tl hos) hom H locs L' hP hS (am_has_del (v := .inl x) hl'))
  | astore_n i =>
    obtain ⟨h1, h2⟩ := am_and2 hI
    obtain ⟨rfl, hd⟩ := am_e1 h2 hd
    obtain ⟨x, r, rfl, hN⟩ := am_sr_ok h; clear h; have h := hN; clear hN
    exact lv_astore_n hex hb hd rfl hl (am_blt h1) rfl (fun L' hl' => hk _ _ _ _ h (am_okl_del hol trivial) (am_oks_tl hos) hom H locs L' hP hS (am_has_del (v := .inr (.inl x)) hl'))
  | lstore_n i =>
    obtain ⟨h1, h2⟩ := am_and2 hI
    obtain ⟨rfl, hd⟩ := am_e1 h2 hd
    obtain ⟨x, r, rfl, hN⟩ := am_sl_ok h; clear h; have h := hN; clear hN
    exact lv_lstore_n hex hb hd rfl hl (am_blt h1) rfl (fun L' hl' => hk _ _ _ _ h (am_okl_de2 hol (hos _ List.mem_cons_self)) (am_oks_tl hos) hom H locs L' hP hS (am_has_de2 (v := .inr (.inr x)) hl'))
  | iinc i n =>
    obtain ⟨h1, h2⟩ := am_and2 hI
    obtain ⟨rfl, hd⟩ := am_e1 h2 hd
    obtain ⟨z, hz, h3, h⟩ := am_o1_ok h
    obtain ⟨kk, hkk⟩ := List.getElem?_of_mem (List.mem_map.mpr ⟨(i, .inl z), am_lget_mem hz, rfl⟩ : (i, am_vl g.2.1 (.inl z)) ∈ am_lm g.2.1 ls)
    exact lv_iinc (v := Int32.ofInt (z + n)) hex hb hd hl hkk (by rw [Int32.ofInt_add]) (am_blt h1) rfl (fun L' hl' => hk _ _ _ _ h (am_okl_del hol h3) hos hom H locs L' hP hS (am_has_del (v := .inl (z + n)) hl'))
  | iadd =>
    obtain ⟨rfl, hd⟩ := am_e1 hI hd
    obtain ⟨y, r, rfl, hN⟩ := am_s1_ok h; clear h; have h := hN; clear hN
    obtain ⟨x, r, rfl, h1, hN⟩ := am_s1_ok h; clear h; have h := hN; clear hN
    refine lv_iadd hex hb hd ?_
    rw [← Int32.ofInt_add]
    exact hk _ _ _ _ h hol (am_oks_cons h1 (am_oks_tl (am_oks_tl hos))) hom H locs L hP hS hl
  | isub =>
    obtain ⟨rfl, hd⟩ := am_e1 hI hd
    obtain ⟨y, r, rfl, hN⟩ := am_s1_ok h; clear h; have h := hN; clear hN
    obtain ⟨x, r, rfl, h1, hN⟩ := am_s1_ok h; clear h; have h := hN; clear hN
    refine lv_isub hex hb hd ?_
    rw [← Int32.ofInt_sub]
    exact hk _ _ _ _ h hol (am_oks_cons h1 (am_oks_tl (am_oks_tl hos))) hom H locs L hP hS hl
  | imul =>
    obtain ⟨rfl, hd⟩ := am_e1 hI hd
    obtain ⟨y, r, rfl, hN⟩ := am_s1_ok h; clear h; have h := hN; clear hN
    obtain ⟨x, r, rfl, h1, hN⟩ := am_s1_ok h; clear h; have h := hN; clear hN
    refine lv_imul hex hb hd ?_
    rw [← Int32.ofInt_mul]
    exact hk _ _ _ _ h hol (am_oks_cons h1 (am_oks_tl (am_oks_tl hos))) hom H locs L hP hS hl
  | idiv =>
    obtain ⟨rfl, hd⟩ := am_e1 hI hd
    obtain ⟨y, r, rfl, hN⟩ := am_s1_ok h; clear h; have h := hN; clear hN
    obtain ⟨x, r, rfl, ⟨h1, h2⟩, hN⟩ := am_s1_ok h; clear h; have h := hN; clear hN
    have hy : am_inR y := hos _ List.mem_cons_self
    have hx : am_inR x := am_oks_tl hos _ List.mem_cons_self
    refine lv_idiv hex hb hd (am_ne0 hy h2) ?_
    rw [am_div hx hy h1 h2]
    exact hk _ _ _ _ h hol (am_oks_cons (am_divR hx h1 h2) (am_oks_tl (am_oks_tl hos))) hom H locs L hP hS hl
  | irem =>
    obtain ⟨rfl, hd⟩ := am_e1 hI hd
    obtain ⟨y, r, rfl, hN⟩ := am_s1_ok h; clear h; have h := hN; clear hN
    obtain ⟨x, r, rfl, h2, h3, h4⟩ := am_s1_ok h
    have hy : am_inR y := hos _ List.mem_cons_self
    have hx : am_inR x := am_oks_tl hos _ List.mem_cons_self
    refine lv_irem hex hb hd (am_ne0 hy h2) ?_
    by_cases h0 : 0 ≤ x
    · rw [am_rem hx hy h0 h2]
      exact hk _ _ _ _ (h3 h0) hol (am_oks_cons (am_modR hy h2) (am_oks_tl (am_oks_tl hos))) hom H locs L hP hS hl
    · have h0 : x < 0 := by omega
      rw [am_rem2 hx hy h0 h2]
      have hm : am_inR (-((-x) % y)) := by
        have h5 := Int.emod_nonneg (-x) (show y ≠ 0 by omega)
        have h6 := Int.emod_lt_of_pos (-x) h2
        have := hy.2
        exact ⟨by omega, by omega⟩
      exact hk _ _ _ _ (h4 h0) hol (am_oks_cons hm (am_oks_tl (am_oks_tl hos))) hom H locs L hP hS hl
  | iand =>
    obtain ⟨rfl, hd⟩ := am_e1 hI hd
    obtain ⟨y, r, rfl, hN⟩ := am_s1_ok h; clear h; have h := hN; clear hN
    obtain ⟨x, r, rfl, h1, hN⟩ := am_s1_ok h; clear h; have h := hN; clear hN
    have hx : am_inR x := am_oks_tl hos _ List.mem_cons_self
    refine lv_iand hex hb hd ?_
    rw [am_and hx h1]
    exact hk _ _ _ _ h hol (am_oks_cons (am_andR x h1) (am_oks_tl (am_oks_tl hos))) hom H locs L hP hS hl
  | ixor =>
    obtain ⟨rfl, hd⟩ := am_e1 hI hd
    obtain ⟨y, r, rfl, hN⟩ := am_s1_ok h; clear h; have h := hN; clear hN
    obtain ⟨x, r, rfl, hN⟩ := am_s1_ok h; clear h; have h := hN; clear hN
    have hy : am_inR y := hos _ List.mem_cons_self
    have hx : am_inR x := am_oks_tl hos _ List.mem_cons_self
    obtain ⟨z, z1, z2, z3⟩ := am_xor hx hy
    refine lv_ixor hex hb hd ?_
    rw [z2]
    exact hk _ _ _ _ (h z z3) hol (am_oks_cons z1 (am_oks_tl (am_oks_tl hos))) hom H locs L hP hS hl
  | ishl =>
    obtain ⟨rfl, hd⟩ := am_e1 hI hd
    obtain ⟨y, r, rfl, hN⟩ := am_s1_ok h; clear h; have h := hN; clear hN
    obtain ⟨x, r, rfl, h1, hN⟩ := am_s1_ok h; clear h; have h := hN; clear hN
    refine lv_ishl hex hb hd ?_
    rw [(am_shl h1).1]
    exact hk _ _ _ _ h hol (am_oks_cons (am_shl h1).2 (am_oks_tl (am_oks_tl hos))) hom H locs L hP hS hl
  | ishr =>
    obtain ⟨rfl, hd⟩ := am_e1 hI hd
    obtain ⟨y, r, rfl, hN⟩ := am_s1_ok h; clear h; have h := hN; clear hN
    obtain ⟨x, r, rfl, h1, hN⟩ := am_s1_ok h; clear h; have h := hN; clear hN
    have hx : am_inR x := am_oks_tl hos _ List.mem_cons_self
    refine lv_ishr hex hb hd ?_
    rw [(am_shr hx h1).1]
    exact hk _ _ _ _ h hol (am_oks_cons (am_shr hx h1).2 (am_oks_tl (am_oks_tl hos))) hom H locs L hP hS hl
  | i2l =>
    obtain ⟨rfl, hd⟩ := am_e1 hI hd
    obtain ⟨x, r, rfl, hN⟩ := am_s1_ok h; clear h; have h := hN; clear hN
    have hx : am_inR x := hos _ List.mem_cons_self
    refine lv_i2l (v := Int64.ofInt x) hex hb hd ?_ (hk _ _ _ _ h hol (am_oks_cons (v := .inr (.inr x)) ⟨by have := hx.1; omega, by have := hx.2; omega⟩ (am_oks_tl hos)) hom H locs L hP hS hl)
    rw [← Int64.ofInt_int32ToInt, am_toInt hx]
  | l2i =>
    obtain ⟨rfl, hd⟩ := am_e1 hI hd
    obtain ⟨x, r, rfl, h1, hN⟩ := am_sl_ok h; clear h; have h := hN; clear hN
    exact lv_l2i (v := Int32.ofInt x) hex hb hd Int64.toInt32_ofInt (hk _ _ _ _ h hol (am_oks_cons (v := .inl x) h1 (am_oks_tl hos)) hom H locs L hP hS hl)
  | ladd =>
    obtain ⟨rfl, hd⟩ := am_e1 hI hd
    obtain ⟨y, r, rfl, hN⟩ := am_sl_ok h; clear h; have h := hN; clear hN
    obtain ⟨x, r, rfl, h1, hN⟩ := am_sl_ok h; clear h; have h := hN; clear hN
    refine lv_ladd hex hb hd ?_
    rw [← Int64.ofInt_add]
    exact hk _ _ _ _ h hol (am_oks_cons (v := .inr (.inr _)) h1 (am_oks_tl (am_oks_tl hos))) hom H locs L hP hS hl
  | lmul =>
    obtain ⟨rfl, hd⟩ := am_e1 hI hd
    obtain ⟨y, r, rfl, hN⟩ := am_sl_ok h; clear h; have h := hN; clear hN
    obtain ⟨x, r, rfl, h1, hN⟩ := am_sl_ok h; clear h; have h := hN; clear hN
    refine lv_lmul hex hb hd ?_
    rw [← Int64.ofInt_mul]
    exact hk _ _ _ _ h hol (am_oks_cons (v := .inr (.inr _)) h1 (am_oks_tl (am_oks_tl hos))) hom H locs L hP hS hl
  | ldiv =>
    obtain ⟨rfl, hd⟩ := am_e1 hI hd
    obtain ⟨y, r, rfl, hN⟩ := am_sl_ok h; clear h; have h := hN; clear hN
    obtain ⟨x, r, rfl, ⟨h1, h2⟩, hN⟩ := am_sl_ok h; clear h; have h := hN; clear hN
    have hy : am_inL y := hos _ List.mem_cons_self
    have hx : am_inL x := am_oks_tl hos _ List.mem_cons_self
    refine lv_ldiv hex hb hd (am_lne0 hy h2) ?_
    rw [am_ldiv hx hy h1 h2]
    exact hk _ _ _ _ h hol (am_oks_cons (v := .inr (.inr _)) (am_divL hx h1 h2) (am_oks_tl (am_oks_tl hos))) hom H locs L hP hS hl
  | lrem =>
    obtain ⟨rfl, hd⟩ := am_e1 hI hd
    obtain ⟨y, r, rfl, hN⟩ := am_sl_ok h; clear h; have h := hN; clear hN
    obtain ⟨x, r, rfl, ⟨h1, h2⟩, hN⟩ := am_sl_ok h; clear h; have h := hN; clear hN
    have hy : am_inL y := hos _ List.mem_cons_self
    have hx : am_inL x := am_oks_tl hos _ List.mem_cons_self
    refine lv_lrem hex hb hd (am_lne0 hy h2) ?_
    rw [am_lrem hx hy h1 h2]
    exact hk _ _ _ _ h hol (am_oks_cons (v := .inr (.inr _)) (am_modL hy h2) (am_oks_tl (am_oks_tl hos))) hom H locs L hP hS hl
  | land =>
    obtain ⟨rfl, hd⟩ := am_e1 hI hd
    obtain ⟨y, r, rfl, hN⟩ := am_sl_ok h; clear h; have h := hN; clear hN
    obtain ⟨x, r, rfl, h1, hN⟩ := am_sl_ok h; clear h; have h := hN; clear hN
    have hx : am_inL x := am_oks_tl hos _ List.mem_cons_self
    refine lv_land hex hb hd ?_
    rw [am_land hx h1]
    exact hk _ _ _ _ h hol (am_oks_cons (v := .inr (.inr _)) (am_landR x) (am_oks_tl (am_oks_tl hos))) hom H locs L hP hS hl
  | dup =>
    obtain ⟨rfl, hd⟩ := am_e1 hI hd
    match st, h, hos with
    | .inl x :: r, h, hos => exact lv_dup hex hb hd rfl (hk _ _ _ _ h hol (am_oks_cons (hos _ List.mem_cons_self) hos) hom H locs L hP hS hl)
    | .inr (.inl x) :: r, h, hos => exact lv_dup hex hb hd rfl (hk _ _ _ _ h hol (am_oks_cons trivial hos) hom H locs L hP hS hl)
  | dup2 =>
    obtain ⟨rfl, hd⟩ := am_e1 hI hd
    obtain ⟨y, r, rfl, hN⟩ := am_s1_ok h; clear h; have h := hN; clear hN
    obtain ⟨x, r, rfl, hN⟩ := am_sr_ok h; clear h; have h := hN; clear hN
    exact lv_dup2_11 hex hb hd rfl rfl (hk _ _ _ _ h hol (am_oks_cons (hos _ List.mem_cons_self) (am_oks_cons trivial hos)) hom H locs L hP hS hl)
  | pop =>
    obtain ⟨rfl, hd⟩ := am_e1 hI hd
    obtain ⟨y, r, rfl, hN⟩ := am_s1_ok h; clear h; have h := hN; clear hN
    exact lv_pop hex hb hd rfl (hk _ _ _ _ h hol (am_oks_tl hos) hom H locs L hP hS hl)
  | getfield idx =>
    obtain ⟨h1, h2⟩ := am_and2 hI
    obtain ⟨rfl, hd⟩ := am_e1 h1 hd
    obtain ⟨o, r, rfl, hN⟩ := am_sr_ok h; clear h; have h := hN; clear hN
    match hs : am_SH o, res, h2 with
    | some (.inr (ci, fks)), ci' :: j :: pl :: _, h2 =>
      simp only [hs] at h
      cases hb' : Nat.beq ci ci' with
      | false => rw [hb'] at h; exact h.elim
      | true =>
        rw [hb'] at h
        have := am_beq hb'
        subst this
        simp only [cond_true] at h
        cases hf : fks[j]? with
        | none => rw [hf] at h; exact h.elim
        | some fk =>
          rw [hf] at h
          refine am_step_get hC0 (ls := ls) (k := k) hd hs h2 hf hP ?_
          match fk, h with
          | 0, h => exact hk _ _ _ _ h hol (am_oks_cons (v := .inl _) (hom o j) (am_oks_tl hos)) hom H locs L hP hS hl
          | 1, h => exact hk _ _ _ _ h hol (am_oks_cons (v := .inl _) (hom o j) (am_oks_tl hos)) hom H locs L hP hS hl
          | q + 2, h => exact hk _ _ _ _ h hol (am_oks_cons (v := .inr (.inl _)) trivial (am_oks_tl hos)) hom H locs L hP hS hl
    | some (.inr (ci, fks)), [_, _], h2 => cases h2
    | some (.inr (ci, fks)), [_], h2 => cases h2
    | some (.inr (ci, fks)), [], h2 => cases h2
    | some (.inl _), _, h2 => simp only [hs] at h
    | none, _, h2 => simp only [hs] at h
  | putfield idx =>
    obtain ⟨h1, h2⟩ := am_and2 hI
    obtain ⟨rfl, hd⟩ := am_e1 h1 hd
    obtain ⟨z, r, rfl, hN⟩ := am_s1_ok h; clear h; have h := hN; clear hN
    obtain ⟨o, r, rfl, hN⟩ := am_sr_ok h; clear h; have h := hN; clear hN
    have hz : am_inR z := hos _ List.mem_cons_self
    match hs : am_SH o, res, h2 with
    | some (.inr (ci, fks)), ci' :: j :: pl :: _, h2 =>
      simp only [hs] at h
      cases hb' : Nat.beq ci ci' with
      | false => rw [hb'] at h; exact h.elim
      | true =>
        rw [hb'] at h
        have := am_beq hb'
        subst this
        simp only [cond_true] at h
        cases hf : fks[j]? with
        | none => rw [hf] at h; exact h.elim
        | some fk =>
          rw [hf] at h
          match fk, h, hf with
          | 0, h, hf => exact am_step_put hC0 hd hs h2 (Or.inl hf) hP hS (fun H1 locs1 hP1 hS1 => hk _ _ _ _ h hol (am_oks_tl (am_oks_tl hos)) (am_okm_up hom hz) H1 locs1 L hP1 hS1 hl)
          | 1, h, hf => exact am_step_put hC0 hd hs h2 (Or.inr ⟨hf, h.1⟩) hP hS (fun H1 locs1 hP1 hS1 => hk _ _ _ _ h.2 hol (am_oks_tl (am_oks_tl hos)) (am_okm_up hom hz) H1 locs1 L hP1 hS1 hl)
          | q + 2, h, hf => exact h.elim
    | some (.inr (ci, fks)), [_, _], h2 => cases h2
    | some (.inr (ci, fks)), [_], h2 => cases h2
    | some (.inr (ci, fks)), [], h2 => cases h2
    | some (.inl _), _, h2 => simp only [hs] at h
    | none, _, h2 => simp only [hs] at h
  | getstatic idx =>
    obtain ⟨h1, h2⟩ := am_and2 hI
    obtain ⟨rfl, hd⟩ := am_e1 h1 hd
    match res, h, h2 with
    | r :: pl :: _, h, h2 =>
      simp only [Bool.or_eq_true] at h2
      rcases h2 with h2 | h2
      · obtain ⟨h3, h4⟩ := am_and2 h2
        have := am_beq h3
        subst this
        exact va_gets hex hb hEnv.2.2.2.1.2.2 hS hown (hts _ (am_isw_mem h4)) (fun x hx => hx) hd (hk _ _ _ _ h hol (am_oks_cons (v := .inr (.inl _)) trivial hos) hom H locs L hP hS hl)
      · obtain ⟨h3, h4⟩ := am_and2 h2
        have := am_beq h3
        subst this
        exact va_gets hex hb hEnv.2.2.2.2.2.2 hS hown (hts _ (am_isw_mem h4)) (fun x hx => hx) hd (hk _ _ _ _ h hol (am_oks_cons (v := .inr (.inl _)) trivial hos) hom H locs L hP hS hl)
    | [_], h, h2 => cases h2
    | [], h, h2 => cases h2
  | iaload =>
    obtain ⟨rfl, hd⟩ := am_e1 hI hd
    obtain ⟨i, r, rfl, hN⟩ := am_s1_ok h; clear h; have h := hN; clear hN
    obtain ⟨a, r, rfl, hN⟩ := am_sr_ok h; clear h; have h := hN; clear hN
    have hi : am_inR i := hos _ List.mem_cons_self
    match hs : am_SH a with
    | some (.inl (false, n)) =>
      simp only [hs] at h
      obtain ⟨⟨h1, h2⟩, h⟩ := h
      refine va_iald hex hb hEnv.1 hP a 0 (am_wo_get g mem hs) am_tysI (am_vp_in hi h1 h2) hd ?_
      rw [am_clamp hi h1]
      exact hk _ _ _ _ h hol (am_oks_cons (v := .inl _) (hom a _) (am_oks_tl (am_oks_tl hos))) hom H locs L hP hS hl
    | some (.inl (true, n)) => simp only [hs] at h
    | some (.inr _) => simp only [hs] at h
    | none =>
      simp only [hs] at h
      match hr : rom a with
      | none => simp only [hr] at h
      | some (n, f) =>
        simp only [hr] at h
        obtain ⟨⟨h1, h2⟩, h⟩ := h
        obtain ⟨x1, x2, x3, x4⟩ := hrom a n f hr
        refine va_sld hex hb x1 (am_X_lt x1) x2 hS (am_vp_in hi h1 h2) hd ?_
        rw [am_clamp hi h1]
        exact hk _ _ _ _ h hol (am_oks_cons (v := .inl _) (x4 _) (am_oks_tl (am_oks_tl hos))) hom H locs L hP hS hl
  | baload =>
    obtain ⟨rfl, hd⟩ := am_e1 hI hd
    obtain ⟨i, r, rfl, hN⟩ := am_s1_ok h; clear h; have h := hN; clear hN
    obtain ⟨a, r, rfl, hN⟩ := am_sr_ok h; clear h; have h := hN; clear hN
    have hi : am_inR i := hos _ List.mem_cons_self
    match hs : am_SH a with
    | some (.inl (true, n)) =>
      simp only [hs] at h
      obtain ⟨⟨h1, h2⟩, h⟩ := h
      refine va_zald hex hb hEnv.1 hP a 1 (am_wo_get g mem hs) am_tysZ (am_vp_in hi h1 h2) hd ?_
      rw [am_clamp hi h1]
      exact hk _ _ _ _ h hol (am_oks_cons (v := .inl _) (hom a _) (am_oks_tl (am_oks_tl hos))) hom H locs L hP hS hl
    | some (.inl (false, n)) => simp only [hs] at h
    | some (.inr _) => simp only [hs] at h
    | none => simp only [hs] at h
  | iastore =>
    obtain ⟨rfl, hd⟩ := am_e1 hI hd
    obtain ⟨z, r, rfl, hN⟩ := am_s1_ok h; clear h; have h := hN; clear hN
    obtain ⟨i, r, rfl, hN⟩ := am_s1_ok h; clear h; have h := hN; clear hN
    obtain ⟨a, r, rfl, hN⟩ := am_sr_ok h; clear h; have h := hN; clear hN
    have hz : am_inR z := hos _ List.mem_cons_self
    have hi : am_inR i := am_oks_tl hos _ List.mem_cons_self
    match hs : am_SH a with
    | some (.inl (false, n)) =>
      simp only [hs] at h
      obtain ⟨⟨h1, h2⟩, h⟩ := h
      refine va_iast hex hb hEnv.1 hP hD hS a 0 (am_wo_get g mem hs) am_tysI (am_vp_in hi h1 h2) hd (fun H1 locs1 hP1 _ hS1 => ?_)
      rw [am_clamp hi h1, am_arr_up] at hP1
      have e := am_arr_set (g := g) (mem := mem) (mem' := am_up mem a i.toNat z) hs rfl (fun k hk i => am_up_ne hk)
      rw [e] at hP1
      exact hk _ _ _ _ h hol (am_oks_tl (am_oks_tl (am_oks_tl hos))) (am_okm_up hom hz) H1 locs1 L hP1 hS1 hl
    | some (.inl (true, n)) => simp only [hs] at h
    | some (.inr _) => simp only [hs] at h
    | none => simp only [hs] at h
  | bastore =>
    obtain ⟨rfl, hd⟩ := am_e1 hI hd
    obtain ⟨z, r, rfl, hN⟩ := am_s1_ok h; clear h; have h := hN; clear hN
    obtain ⟨i, r, rfl, hN⟩ := am_s1_ok h; clear h; have h := hN; clear hN
    obtain ⟨a, r, rfl, hN⟩ := am_sr_ok h; clear h; have h := hN; clear hN
    have hz : am_inR z := hos _ List.mem_cons_self
    have hi : am_inR i := am_oks_tl hos _ List.mem_cons_self
    match hs : am_SH a with
    | some (.inl (true, n)) =>
      simp only [hs] at h
      obtain ⟨⟨⟨h1, h2⟩, h3⟩, h⟩ := h
      refine va_zast hex hb hEnv.1 hP hD hS a 1 (am_wo_get g mem hs) am_tysZ (am_vp_in hi h1 h2) hd (fun H1 locs1 hP1 _ hS1 => ?_)
      have hn : vp_nar .boolean (Int32.ofInt z) = Int32.ofInt z := by rcases h3 with rfl | rfl <;> decide +kernel
      rw [am_clamp hi h1, hn, am_arr_up] at hP1
      have e := am_arr_set (g := g) (mem := mem) (mem' := am_up mem a i.toNat z) hs rfl (fun k hk i => am_up_ne hk)
      rw [e] at hP1
      exact hk _ _ _ _ h hol (am_oks_tl (am_oks_tl (am_oks_tl hos))) (am_okm_up hom hz) H1 locs1 L hP1 hS1 hl
    | some (.inl (false, n)) => simp only [hs] at h
    | some (.inr _) => simp only [hs] at h
    | none => simp only [hs] at h
  | arraylength =>
    obtain ⟨rfl, hd⟩ := am_e1 hI hd
    obtain ⟨a, r, rfl, hN⟩ := am_sr_ok h; clear h; have h := hN; clear hN
    match hs : am_SH a with
    | some (.inl (z, n)) =>
      simp only [hs] at h
      have hn := am_sh_arr hs
      have ht : ∃ (t0 : Nat) (ty : FieldType), ([(g.2.2.1, .int), (g.2.2.2, .boolean)] : List (ClassId × FieldType))[t0]? = some (bif z then g.2.2.2 else g.2.2.1, ty) := by
        cases z
        · exact ⟨0, _, rfl⟩
        · exact ⟨1, _, rfl⟩
      obtain ⟨t0, ty, ht⟩ := ht
      exact va_alen (v := Int32.ofInt (n : Int)) hex hb hEnv.1 hP a t0 (am_wo_get g mem hs) ht (Int32.ofInt_eq_ofNat).symm hd (hk _ _ _ _ h hol (am_oks_cons (v := .inl _) ⟨by omega, by omega⟩ (am_oks_tl hos)) hom H locs L hP hS hl)
    | some (.inr _) => simp only [hs] at h
    | none =>
      simp only [hs] at h
      match hr : rom a with
      | none => simp only [hr] at h
      | some (n, f) =>
        simp only [hr] at h
        obtain ⟨x1, x2, x3, x4⟩ := hrom a n f hr
        refine va_slen hex hb x1 (am_X_lt x1) x2 hS hd ?_
        rw [← Int32.ofInt_eq_ofNat]
        exact hk _ _ _ _ h hol (am_oks_cons (v := .inl _) ⟨by omega, x3⟩ (am_oks_tl hos)) hom H locs L hP hS hl
  | if_icmp cd off =>
    obtain ⟨h1, h2⟩ := am_and2 hI
    obtain ⟨rfl, hd⟩ := am_e1 h1 hd
    obtain ⟨y, r, rfl, hN⟩ := am_s1_ok h; clear h; have h := hN; clear hN
    obtain ⟨x, r, rfl, hN⟩ := am_s1_ok h; clear h; have h := hN; clear hN
    have hy : am_inR y := hos _ List.mem_cons_self
    have hx : am_inR x := am_oks_tl hos _ List.mem_cons_self
    match tgts, h, h2 with
    | t :: _, h, h2 => exact am_step_br hC0 (ls := ls) (mem := mem) hx hy hd (of_decide_eq_true h2) (am_br_map (fun z => hk _ _ _ _ z hol (am_oks_tl (am_oks_tl hos)) hom H locs L hP hS hl) (fun z => hk _ _ _ _ z hol (am_oks_tl (am_oks_tl hos)) hom H locs L hP hS hl) h)
    | [], h, h2 => cases h2
  | ifCond cd off =>
    obtain ⟨h1, h2⟩ := am_and2 hI
    obtain ⟨rfl, hd⟩ := am_e1 h1 hd
    obtain ⟨x, r, rfl, hN⟩ := am_s1_ok h; clear h; have h := hN; clear hN
    have hx : am_inR x := hos _ List.mem_cons_self
    match tgts, h, h2 with
    | t :: _, h, h2 => exact am_step_b0 hC0 (ls := ls) (mem := mem) hx hd (of_decide_eq_true h2) (am_br_map (fun z => hk _ _ _ _ z hol (am_oks_tl hos) hom H locs L hP hS hl) (fun z => hk _ _ _ _ z hol (am_oks_tl hos) hom H locs L hP hS hl) h)
    | [], h, h2 => cases h2
  | goto off =>
    obtain ⟨h1, h2⟩ := am_and2 hI
    obtain ⟨rfl, hd⟩ := am_e1 h1 hd
    match tgts, h, h2 with
    | t :: _, h, h2 => exact lv_goto hex hb hd (of_decide_eq_true h2) (hk _ _ _ _ h hol hos hom H locs L hP hS hl)
    | [], h, h2 => cases h2
  | tableswitch d lo hi offs =>
    obtain ⟨x, r, rfl, hN⟩ := am_s1_ok h; clear h; have h := hN; clear hN
    have hx : am_inR x := hos _ List.mem_cons_self
    match tgts, h, hI with
    | dt :: ts, h, hI =>
      obtain ⟨h1, h3⟩ := am_and2 hI
      obtain ⟨h1, h2⟩ := am_and2 h1
      have h1 := of_decide_eq_true h1
      have h2 := of_decide_eq_true h2
      have h3 := of_decide_eq_true h3
      have hlen : ts.length = offs.size := by
        have := congrArg List.length h2
        simpa using this.symm
      by_cases hlt : x < lo
      · exact lv_tableOut hex hb hd (by rw [am_toInt hx]; exact Or.inl hlt) h1 (hk _ _ _ _ (h.1 hlt) hol (am_oks_tl hos) hom H locs L hP hS hl)
      · obtain ⟨g1, g2⟩ := am_tsw_ok ts lo h.2 (by omega)
        by_cases hgt : hi < x
        · exact lv_tableOut hex hb hd (by rw [am_toInt hx]; exact Or.inr hgt) h1 (hk _ _ _ _ (g2 (by omega)) hol (am_oks_tl hos) hom H locs L hP hS hl)
        · obtain ⟨t, ht, hkt⟩ := g1 (by omega)
          have hq : (ts.map (fun t : Nat => (t : Int)))[(x - lo).toNat]? = some (t : Int) := by rw [List.getElem?_map, ht]; rfl
          rw [← h2, List.getElem?_map] at hq
          cases ho : offs.toList[(x - lo).toNat]? with
          | none => rw [ho] at hq; cases hq
          | some off =>
            rw [ho] at hq
            refine lv_tableIn (off := off) hex hb hd (by rw [am_toInt hx]; exact hlt) (by rw [am_toInt hx]; exact hgt) ?_ (Option.some.inj hq) (hk _ _ _ _ hkt hol (am_oks_tl hos) hom H locs L hP hS hl)
            rw [am_toInt hx, ← Array.getElem?_toList]
            exact ho
    | [], h, hI => cases hI
  | lookupswitch d ps =>
    obtain ⟨x, r, rfl, hN⟩ := am_s1_ok h; clear h; have h := hN; clear hN
    have hx : am_inR x := hos _ List.mem_cons_self
    match tgts, h, hI with
    | dt :: ts, h, hI =>
      obtain ⟨h1, h3⟩ := am_and2 hI
      obtain ⟨h1, h2⟩ := am_and2 h1
      have h1 := of_decide_eq_true h1
      have h2 := of_decide_eq_true h2
      obtain ⟨off, t, g1, g2, g3⟩ := am_lsw_ok (k := fun t => k t ls r mem) h1 (fun z => z) ps.toList ts h2 h
      exact lv_lookup hex hb hd h3 (by rw [am_toInt hx]; exact g1) g2 (hk _ _ _ _ g3 hol (am_oks_tl hos) hom H locs L hP hS hl)
    | [], h, hI => cases hI
  | invokevirtual idx =>
    obtain ⟨h1, h2⟩ := am_and2 hI
    obtain ⟨rfl, hd⟩ := am_e1 h1 hd
    match res, h, h2 with
    | y :: n :: v :: ci :: p1 :: p2 :: p3 :: p4 :: p5 :: _, h, h2 =>
      obtain ⟨h2, q5⟩ := am_and2 h2
      obtain ⟨h2, q4⟩ := am_and2 h2
      obtain ⟨h2, q3⟩ := am_and2 h2
      obtain ⟨hcw, q2⟩ := am_and2 h2
      replace h : match am_take (n + 1) st [] with
        | some (.inr (.inl o) :: as, r) => bif (am_iso am_SH o ci && Nat.ble r.length 4) then ∃ Qc : am_Po, am_Mt l g y (.inr (.inl o) :: as) mem Qc ∧ ∀ z mem', Qc z mem' → k (pc + 3) ls (bif Nat.beq v 0 then r else .inl z :: r) mem' else False
        | _ => False := h
      match ht : am_take (n + 1) st [] with
      | some (.inr (.inl o) :: as, r) =>
        rw [ht] at h
        simp only at h
        cases hbb : (am_iso am_SH o ci && Nat.ble r.length 4) with
        | false => rw [hbb] at h; exact h.elim
        | true =>
          rw [hbb] at h
          obtain ⟨Qc, hM, hkk⟩ := h
          obtain ⟨hiso, hrl⟩ := am_and2 hbb
          have hrl := am_ble hrl
          obtain ⟨e1, e2, e3⟩ := am_take_st ht (am_vl g.2.1)
          obtain ⟨hoa, hor⟩ := e3 hos
          have hcat := am_cat g.2.1 r
          rw [e1]
          refine am_J_call hC0 (st := st) hcw hM hoa hom hor hol hP hS hl (fun mt => ?_) (fun z mem' hq => hk _ _ _ _ (hkk z mem' hq))
          unfold am_iso at hiso
          match hs : am_SH o with
          | some (.inr (ci', fks)) =>
            simp only [hs] at hiso
            have := am_beq hiso
            subst this
            obtain ⟨q, hq, -⟩ := am_sh_obj hs
            have hC1 : q.1 = (am_mi y).1.cls := by
              have := of_decide_eq_true q5
              rw [hq] at this
              exact Option.some.inj this
            have hn : as.length = n := by
              simp only [List.length_cons] at e2
              omega
            exact va_runV (C := (am_mi y).1.cls) (As := as.map (am_vl g.2.1)) (rest := r.map (am_vl g.2.1)) (b := g.2.1 o) ⟨hex, hb, hml, hown, hts⟩ mt ⟨am_cwB hC0 hcw q2, hts _ (am_isw_mem q3), hts _ (am_isw_mem q4)⟩ ⟨(am_preS hC0 hP hS _).1, by rw [← hC1]; exact va_recv hEnv.1 hP hq (am_wo_get g mem hs), (am_preS hC0 hP hS _).2⟩ rfl (by simp [hn]) hl.1 (by simp [am_vl]) (lv_room (by omega)) hd ⟨by omega, by omega⟩
          | some (.inl _) => simp only [hs] at hiso; cases hiso
          | none => simp only [hs] at hiso; cases hiso
      | some ([], r) => rw [ht] at h; exact h.elim
      | some (.inl _ :: as, r) => rw [ht] at h; exact h.elim
      | some (.inr (.inr _) :: as, r) => rw [ht] at h; exact h.elim
      | none => rw [ht] at h; exact h.elim
    | [_, _, _, _, _, _, _, _], h, h2 => cases h2
    | [_, _, _, _, _, _, _], h, h2 => cases h2
    | [_, _, _, _, _, _], h, h2 => cases h2
    | [_, _, _, _, _], h, h2 => cases h2
    | [_, _, _, _], h, h2 => cases h2
    | [_, _, _], h, h2 => cases h2
    | [_, _], h, h2 => cases h2
    | [_], h, h2 => cases h2
    | [], h, h2 => cases h2
  | invokestatic idx =>
    obtain ⟨h1, h2⟩ := am_and2 hI
    obtain ⟨rfl, hd⟩ := am_e1 h1 hd
    match res, h, h2 with
    | y :: n :: v :: kd :: p1 :: p2 :: p3 :: p4 :: _, h, h2 =>
      replace h : bif Nat.beq v 9 then (am_s1 st fun c st => am_s1 st fun dp st => am_sr st fun b st => am_s1 st fun sp st => am_sr st fun a st => match am_SH a, am_SH b with
        | some (.inl (false, na)), some (.inl (false, nb)) => bif Nat.ble st.length 4 then (0 ≤ sp ∧ 0 ≤ dp ∧ 0 ≤ c ∧ sp + c ≤ na ∧ dp + c ≤ nb) ∧ k (pc + 3) ls st (am_cp mem a sp.toNat b dp.toNat c.toNat) else False
        | _, _ => False) else (match am_take n st [] with
        | some (as, r) => bif Nat.ble r.length 4 then ∃ Qc : am_Po, am_Mt l g y as mem Qc ∧ ∀ z mem', Qc z mem' → k (pc + 3) ls (bif Nat.beq v 0 then r else .inl z :: r) mem' else False
        | none => False) := h
      replace h2 : (bif Nat.beq v 9 then (Nat.blt 0 dp && am_isw p1 (.methodLink own idx arraycopyName) && am_isw p2 (.native arraycopyName) && am_isw p3 (.static arraycopyName) && am_isw p4 (.initialized "java/lang/System"))
        else (am_cw dp y n v p3 p4 && am_isw p2 (.static (am_mi y).1) && (bif Nat.beq kd 0 then am_isw p1 (.methodLink own idx (am_mi y).1) else (decide (lw_tbl[p1]? = some (.methodLinkNest own idx (am_mi y).1 "RoofMattress")))))) = true := h2
      cases hv9 : Nat.beq v 9 with
      | true =>
        rw [hv9] at h h2
        simp only [cond_true] at h h2
        obtain ⟨h2, q4⟩ := am_and2 h2
        obtain ⟨h2, q3⟩ := am_and2 h2
        obtain ⟨h2, q2⟩ := am_and2 h2
        obtain ⟨h2, q1⟩ := am_and2 h2
        obtain ⟨cn, r, rfl, hN⟩ := am_s1_ok h; clear h; have h := hN; clear hN
        obtain ⟨dq, r, rfl, hN⟩ := am_s1_ok h; clear h; have h := hN; clear hN
        obtain ⟨b, r, rfl, hN⟩ := am_sr_ok h; clear h; have h := hN; clear hN
        obtain ⟨sp, r, rfl, hN⟩ := am_s1_ok h; clear h; have h := hN; clear hN
        obtain ⟨a, r, rfl, hN⟩ := am_sr_ok h; clear h; have h := hN; clear hN
        have hcn : am_inR cn := hos _ List.mem_cons_self
        have hdq : am_inR dq := am_oks_tl hos _ List.mem_cons_self
        have hsp : am_inR sp := am_oks_tl (am_oks_tl (am_oks_tl hos)) _ List.mem_cons_self
        match hsa : am_SH a, hsb : am_SH b with
        | some (.inl (false, na)), some (.inl (false, nb)) =>
          simp only [hsa, hsb] at h
          cases hrl : Nat.ble r.length 4 with
          | false => rw [hrl] at h; exact h.elim
          | true =>
            rw [hrl] at h
            exact am_step_copy hC0 (ls := ls) hd q1 q2 q3 q4 (am_blt h2) hsa hsb (am_ble hrl) hsp hdq hcn h.1 hP hS hl (fun H1 locs1 hP1 hS1 => hk _ _ _ _ h.2 hol (am_oks_tl (am_oks_tl (am_oks_tl (am_oks_tl (am_oks_tl hos))))) (am_okm_cp hom) H1 locs1 L hP1 hS1 hl)
        | some (.inl (false, na)), some (.inl (true, nb)) => simp only [hsa, hsb] at h
        | some (.inl (false, na)), some (.inr _) => simp only [hsa, hsb] at h
        | some (.inl (false, na)), none => simp only [hsa, hsb] at h
        | some (.inl (true, na)), _ => simp only [hsa] at h
        | some (.inr _), _ => simp only [hsa] at h
        | none, _ => simp only [hsa] at h
      | false =>
        rw [hv9] at h h2
        simp only [cond_false] at h h2
        obtain ⟨h2, q2⟩ := am_and2 h2
        obtain ⟨hcw, q1⟩ := am_and2 h2
        match ht : am_take n st [] with
        | some (as, r) =>
          rw [ht] at h
          simp only at h
          cases hrl : Nat.ble r.length 4 with
          | false => rw [hrl] at h; exact h.elim
          | true =>
            rw [hrl] at h
            obtain ⟨Qc, hM, hkk⟩ := h
            have hrl := am_ble hrl
            obtain ⟨e1, e2, e3⟩ := am_take_st ht (am_vl g.2.1)
            obtain ⟨hoa, hor⟩ := e3 hos
            have hcat := am_cat g.2.1 r
            rw [e1]
            refine am_J_call hC0 (st := st) hcw hM hoa hom hor hol hP hS hl (fun mt => ?_) (fun z mem' hq => hk _ _ _ _ (hkk z mem' hq))
            cases hkd : Nat.beq kd 0 with
            | true =>
              rw [hkd] at q2
              exact va_runS (As := as.map (am_vl g.2.1)) (rest := r.map (am_vl g.2.1)) ⟨hex, hb, hml, hown, hts⟩ mt ⟨am_cwB hC0 hcw q2, hts _ (am_isw_mem q1)⟩ (am_preS hC0 hP hS _) rfl (by simp [e2]) hl.1 rfl (lv_room (by omega)) hd ⟨by omega, by omega⟩
            | false =>
              rw [hkd] at q2
              have hnt : Cond.methodLinkNest own idx (am_mi y).1 "RoofMattress" ∈ am_nt := List.mem_filter.mpr ⟨List.mem_of_getElem? (of_decide_eq_true q2), rfl⟩
              exact va_runSN (As := as.map (am_vl g.2.1)) (rest := r.map (am_vl g.2.1)) ⟨hex, hb, hml, hown, hts⟩ mt ⟨am_cwN hC0 hcw hnt, hts _ (am_isw_mem q1), trivial⟩ (am_preS hC0 hP hS _) rfl (by simp [e2]) hl.1 rfl (lv_room (by omega)) hd ⟨by omega, by omega⟩
        | none => rw [ht] at h; exact h.elim
    | [_, _, _, _, _, _, _], h, h2 => cases h2
    | [_, _, _, _, _, _], h, h2 => cases h2
    | [_, _, _, _, _], h, h2 => cases h2
    | [_, _, _, _], h, h2 => cases h2
    | [_, _, _], h, h2 => cases h2
    | [_, _], h, h2 => cases h2
    | [_], h, h2 => cases h2
    | [], h, h2 => cases h2
  | ireturn =>
    obtain ⟨h1, h2⟩ := am_and2 hI
    obtain ⟨rfl, hd⟩ := am_e1 h2 hd
    have hrv : rv = false := by
      cases rv
      · rfl
      · cases h1
    match st, h, hos with
    | [.inl z], h, hos =>
      cases rb with
      | true => exact hret.1 pc z mem H locs L hrv hd h.2 (fun _ => h.1) (hos _ List.mem_cons_self) hom hP hS
      | false => exact hret.1 pc z mem H locs L hrv hd h (fun q => by cases q) (hos _ List.mem_cons_self) hom hP hS
  | return_ =>
    obtain ⟨hrv, h2⟩ := am_and2 hI
    obtain ⟨rfl, hd⟩ := am_e1 h2 hd
    match st, h with
    | [], h => exact hret.2 pc mem H locs L hrv hd h hom hP hS
  | _ => exact h.elim
end STR
end
section
section SWP
variable {p : Program} {l : Launch} {e : Env} {R : Room} {s : State} {m : MethodId} {args : Array Value} {below : List Frame} {meth : Method} {c : Code} {cells slots : Nat} {Qf : State → Prop} {cc : ByteArray} {own : String} {nL dp : Nat} {g : am_G} {A : Nat → Prop} {rom : Nat → Option (Nat × (Nat → Int))} {rv rb : Bool} {Q : am_Po}
/-- from wp to the machine, with the cut places' goals given -/
theorem am_wp_J (hC : am_C p R s m args c cells slots cc own nL dp g A rom) (hret : am_Ret p l e R s m args below meth c cells slots Qf cc g A rv rb Q) {T : Nat → Option am_AE} (hT : ∀ pc ae, T pc = some ae → am_okE cc own nL dp rv pc ae = true) {cut : List (Nat × List Nat)} {K : Nat → List am_AV → am_Mem → Prop}
    (hK : ∀ pc keep vs mem, am_cget cut pc = some keep → K pc vs mem → am_J p l e R s m args below meth c cells slots Qf nL g A pc (keep.zip vs) [] mem) :
    ∀ (n pc : Nat) (ls : am_Lc) (st : List am_AV) (mem : am_Mem), am_wp am_SH rom (am_Mt l g) rb T cut K Q n pc ls st mem → am_J p l e R s m args below meth c cells slots Qf nL g A pc ls st mem
  | 0, pc, ls, st, mem, h => h.elim
  | n + 1, pc, ls, st, mem, h => by
    unfold am_wp at h
    match ht : T pc with
    | none => rw [ht] at h; exact h.elim
    | some ae =>
      rw [ht] at h
      refine am_step hC hret (hT pc ae ht) (fun pc' ls' st' mem' hk => ?_) h
      match hc : am_cget cut pc' with
      | none =>
        rw [hc] at hk
        exact am_wp_J hC hret hT hK n pc' ls' st' mem' hk
      | some keep =>
        rw [hc] at hk
        intro hol hos hom H locs L hP hS hl
        cases hkp : am_kp ls' keep with
        | none =>
          simp only [hkp] at hk
        | some vs =>
          simp only [hkp] at hk
          cases st' with
          | cons v r => exact hk.elim
          | nil =>
            obtain ⟨g1, g2⟩ := am_kp_ok hl hol hkp
            refine hK pc' keep vs mem' hc hk (fun q hq => ?_) hos hom H locs L hP hS g1
            exact g2 q.2 (List.of_mem_zip hq).2
end SWP
def am_rom0 (k : Nat) : Option (Nat × (Nat → Int)) := bif Nat.beq k 63 then some (9, am_least) else bif Nat.beq k 64 then some (9, am_most) else none
def am_isB (r : Option FieldType) : Bool := match r with
  | some .boolean => true
  | _ => false
/-- locals at the entry -/
def am_ent : Nat → List am_AV → am_Lc
  | _, [] => []
  | i, v :: r => (i, v) :: am_ent (i + 1) r
def am_noL (as : List am_AV) : Bool := as.all fun v => !am_isl v
theorem am_ent_args (ad : Nat → Nat) : ∀ (as : List am_AV) (i : Nat), am_noL as = true → lv_args i (as.map (am_vl ad)) = am_lm ad (am_ent i as)
  | [], i, _ => rfl
  | v :: r, i, h => by
    simp only [am_noL, List.all_cons, Bool.and_eq_true] at h
    have h1 : (am_vl ad v).category = 1 := am_isl_cat (by simpa using h.1)
    have := am_ent_args ad r (i + 1) (by simpa [am_noL] using h.2)
    simp only [List.map_cons, lv_args, am_ent, am_lm]
    rw [h1, if_neg (by omega), this]
theorem am_ent_len (ad : Nat → Nat) : ∀ (as : List am_AV), am_noL as = true → (lg_sl (as.map (am_vl ad))).length = as.length
  | [], _ => rfl
  | v :: r, h => by
    simp only [am_noL, List.all_cons, Bool.and_eq_true] at h
    have h1 : (am_vl ad v).category = 1 := am_isl_cat (by simpa using h.1)
    have := am_ent_len ad r (by simpa [am_noL] using h.2)
    simp only [List.map_cons, lg_sl, List.flatMap_cons, h1] at this ⊢
    simp [this]
theorem am_ent_ok : ∀ (as : List am_AV) (i : Nat), am_oks as → am_okl (am_ent i as)
  | [], i, _ => fun q hq => by simp [am_ent] at hq
  | v :: r, i, h => fun q hq => by
    rcases List.mem_cons.mp hq with rfl | hq
    · exact h _ List.mem_cons_self
    · exact am_ent_ok r (i + 1) (am_oks_tl h) q hq
def am_tok (cc : ByteArray) (own : String) (nL dp : Nat) (rv : Bool) (N : Nat) (T : Nat → Option am_AE) : Bool := (List.range N).all fun pc => match T pc with
  | some ae => am_okE cc own nL dp rv pc ae
  | none => true
/-- a table of a method, with places only below N -/
def am_tb (N : Nat) (T : Nat → Option am_AE) : Nat → Option am_AE := fun pc => bif Nat.blt pc N then T pc else none
theorem am_tok_ok {cc : ByteArray} {own : String} {nL dp : Nat} {rv : Bool} {N : Nat} {T : Nat → Option am_AE} (h : am_tok cc own nL dp rv N T = true) : ∀ pc ae, am_tb N T pc = some ae → am_okE cc own nL dp rv pc ae = true := by
  intro pc ae ha
  unfold am_tb at ha
  cases hb : Nat.blt pc N with
  | false => rw [hb] at ha; cases ha
  | true =>
    rw [hb] at ha
    have := List.all_eq_true.mp h pc (List.mem_range.mpr (am_blt hb))
    simp only [cond_true] at ha
    rw [ha] at this
    exact this
theorem am_ofW {l : Launch} {y : MethodName} {ws ws' : List Cond} {rm : Room} {Pc : Array Value → State → Prop} {Qc : Array Value → State → Outcome → State → Prop} {mc ms : Nat} {free : Addr → Prop} {cc : ByteArray} {maxL : Nat} {ret : Option FieldType}
    (hy : plainFor y = true) (hw : ws = Cond.code y cc maxL ret :: ws')
    (body : ∀ p e s m args below meth c s₁, BodyLoose p l y (headSpec ws rm) cc maxL ret e s m args below meth c s₁ → c.maxLocals = maxL → Pc args s →
      W p l e (headSpec ws rm).room s m args below meth c s.heap [] 0 0 (MQ below Qc args s mc ms free) (entryFrame m args maxL)) : Met l y ws rm Pc Qc mc ms free := by
  refine MetFree.of_bodySF (code := cc) (maxLocals := maxL) (ret := ret) hy ?_ ?_
  · intro args s m h hn
    obtain ⟨meth, c, h1, h2, h3, h4, h5, h6, -, -⟩ := Cond.code_spec hn (atoms_spec (ws := ws) h _ (by rw [hw]; exact List.mem_cons_self))
    exact ⟨meth, c, h1, h2, h3, h4, h5, h6⟩
  · intro p e s m args below meth c s₁ B hml hP _
    have hh0 : s₁.heap = s.heap := by rw [B.state]; rfl
    obtain ⟨t, a1, o, b1, b2, b3⟩ := body p e s m args below meth c s₁ B hml hP s₁ hh0 (Stand.of_body B)
    exact ⟨t, o, a1, b1, b2, ⟨b3.1, b3.2⟩⟩
/-- what is checked of a method as a whole -/
def am_mok (y N : Nat) (T : Nat → Option am_AE) : Bool := am_tok (am_mi y).2.1 (am_mi y).1.cls (am_mi y).2.2.1 (am_mi y).2.2.2.2.1 (am_isV (am_mi y).2.2.2.1) N T && plainFor (am_mi y).1 && decide ((am_mi y).2.2.2.1 = none ∨ (am_mi y).2.2.2.1 = some .int ∨ (am_mi y).2.2.2.1 = some .boolean)
set_option maxHeartbeats 4000000 in
/-- a contract out of wp: from the entry, and from every cut place, by a measure -/
theorem am_Mt_of {l : Launch} {g : am_G} {y N : Nat} {T : Nat → Option am_AE} (hok : am_mok y N T = true) (cut : List (Nat × List Nat)) (I : Nat → Nat → List am_AV → am_Mem → Prop) {as : List am_AV} {mem : am_Mem} {Q : am_Po} (hn : (am_noL as && Nat.ble as.length (am_mi y).2.2.1) = true) (n0 : Nat)
    (h0 : am_wp am_SH am_rom0 (am_Mt l g) (am_isB (am_mi y).2.2.2.1) (am_tb N T) cut (fun pc vs mem' => ∃ n, I pc n vs mem') Q n0 0 (am_ent 0 as) [] mem)
    (h1 : ∀ pc keep, am_cget cut pc = some keep → ∀ n vs mem', I pc n vs mem' → ∃ nn, am_wp am_SH am_rom0 (am_Mt l g) (am_isB (am_mi y).2.2.2.1) (am_tb N T) cut (fun pc' vs' mem'' => ∃ n', n' < n ∧ I pc' n' vs' mem'') Q nn pc (keep.zip vs) [] mem') : am_Mt l g y as mem Q := by
  intro hoa hom
  obtain ⟨hok, hty⟩ := am_and2 hok
  obtain ⟨hok, hpl⟩ := am_and2 hok
  obtain ⟨hn1, hn2⟩ := am_and2 hn
  refine am_ofW (cc := (am_mi y).2.1) (maxL := (am_mi y).2.2.1) (ret := (am_mi y).2.2.2.1) hpl rfl ?_
  intro p e s m args below meth c s₁ B hml hv
  obtain ⟨rfl, hP, hEnv⟩ := hv
  have hx := B.exec
  have hb := B.bytes
  have hr := B.returns
  have hlocks := B.notSynchronized
  have hts := atoms_spec (ws := Cond.code (am_mi y).1 (am_mi y).2.1 (am_mi y).2.2.1 (am_mi y).2.2.2.1 :: am_gt) B.pre
  have hown : s.vm.findClass (am_mi y).1.cls = some m.cls := findClass_of_methodNamed B.named
  have hC : am_C p (headSpec (Cond.code (am_mi y).1 (am_mi y).2.1 (am_mi y).2.2.1 (am_mi y).2.2.2.1 :: am_gt) (am_rmd (am_mi y).2.2.2.2.1)).room s m (as.map (am_vl g.2.1)).toArray c 0 0 (am_mi y).2.1 (am_mi y).1.cls (am_mi y).2.2.1 (am_mi y).2.2.2.2.1 g (am_A g) am_rom0 := by
    refine ⟨⟨hx, hb, hml, hown, fun w hw => hts w (List.mem_cons_of_mem _ hw)⟩, ⟨Nat.le_refl _, Nat.le_refl _, Nat.zero_le _, Nat.zero_le _⟩, hEnv, fun k hk => ⟨k, hk, rfl⟩, fun k n f hf => ?_⟩
    unfold am_rom0 at hf
    cases h63 : Nat.beq k 63 with
    | true =>
      rw [h63] at hf
      cases hf
      have := am_beq h63
      subst this
      refine ⟨hEnv.2.2.2.1.1, hEnv.2.2.2.1.2.1, by omega, fun j => ?_⟩
      have hall : ∀ z ∈ ([1, 1, 0, 0, 0, 0, 1, 10, 0] : List Int), am_inRb z = true := by decide +kernel
      unfold am_least
      rw [List.getD_eq_getElem?_getD]
      cases hj : ([1, 1, 0, 0, 0, 0, 1, 10, 0] : List Int)[j]? with
      | none => exact am_in0
      | some z => exact am_inRb_ok (hall z (List.mem_of_getElem? hj))
    | false =>
      rw [h63] at hf
      simp only [cond_false] at hf
      cases h64 : Nat.beq k 64 with
      | true =>
        rw [h64] at hf
        cases hf
        have := am_beq h64
        subst this
        refine ⟨hEnv.2.2.2.2.1, hEnv.2.2.2.2.2.1, by omega, fun j => ?_⟩
        have hall : ∀ z ∈ ([99, 40, 999, 3, 99, 9, 20, 70, 30] : List Int), am_inRb z = true := by decide +kernel
        unfold am_most
        rw [List.getD_eq_getElem?_getD]
        cases hj : ([99, 40, 999, 3, 99, 9, 20, 70, 30] : List Int)[j]? with
        | none => exact am_in0
        | some z => exact am_inRb_ok (hall z (List.mem_of_getElem? hj))
      | false => rw [h64] at hf; cases hf
  have hret : am_Ret p l e (headSpec (Cond.code (am_mi y).1 (am_mi y).2.1 (am_mi y).2.2.1 (am_mi y).2.2.2.1 :: am_gt) (am_rmd (am_mi y).2.2.2.2.1)).room s m (as.map (am_vl g.2.1)).toArray below meth c 0 0 (MQ below (am_Qc g (am_isV (am_mi y).2.2.2.1) Q) (as.map (am_vl g.2.1)).toArray s 0 0 (am_A g)) (am_mi y).2.1 g (am_A g) (am_isV (am_mi y).2.2.2.1) (am_isB (am_mi y).2.2.2.1) Q := by
    have hty := of_decide_eq_true hty
    refine ⟨fun pc z mem' H locs L hrv hd hq hz01 hz hm' hP' hS' => ?_, fun pc mem' H locs L hrv hd hq hm' hP' hS' => ?_⟩
    · have hpost : ∀ t : State, t.heap = H → s.WarmedH t.vm → am_Qc g (am_isV (am_mi y).2.2.2.1) Q (as.map (am_vl g.2.1)).toArray s (.returned (some (.int (Int32.ofInt z)))) t := fun t ht _ => ⟨⟨z, mem', by rw [hrv]; rfl, hq, hz, hm', by rw [ht]; exact hP'⟩, hS'.F ht⟩
      rcases hty with h | h | h
      · rw [h] at hrv; cases hrv
      · exact W.iret hx hb (by rw [hr, h]) hpost hS'.2.2 hd
      · refine W.zret (ty := .boolean) hx hb (by rw [hr, h]) ?_ hpost hS'.2.2 hd
        have := hz01 (by rw [h]; rfl)
        rcases this with rfl | rfl <;> decide +kernel
    · have hpost : ∀ t : State, t.heap = H → s.WarmedH t.vm → am_Qc g (am_isV (am_mi y).2.2.2.1) Q (as.map (am_vl g.2.1)).toArray s (.returned none) t := fun t ht _ => ⟨⟨0, mem', by rw [hrv]; rfl, hq, am_in0, hm', by rw [ht]; exact hP'⟩, hS'.F ht⟩
      refine W.vret hx hb ?_ hpost hS'.2.2 hd
      rw [hr]
      rcases hty with h | h | h
      · exact h
      · rw [h] at hrv; cases hrv
      · rw [h] at hrv; cases hrv
  have hT := am_tok_ok hok
  have key : ∀ (n pc : Nat) (keep : List Nat) (vs : List am_AV) (mem' : am_Mem), am_cget cut pc = some keep → I pc n vs mem' → am_J p l e (headSpec (Cond.code (am_mi y).1 (am_mi y).2.1 (am_mi y).2.2.1 (am_mi y).2.2.2.1 :: am_gt) (am_rmd (am_mi y).2.2.2.2.1)).room s m (as.map (am_vl g.2.1)).toArray below meth c 0 0 (MQ below (am_Qc g (am_isV (am_mi y).2.2.2.1) Q) (as.map (am_vl g.2.1)).toArray s 0 0 (am_A g)) (am_mi y).2.2.1 g (am_A g) pc (keep.zip vs) [] mem' := by
    intro n
    induction n using Nat.strongRecOn with
    | ind n ih =>
      intro pc keep vs mem' hc hI
      obtain ⟨nn, hw⟩ := h1 pc keep hc n vs mem' hI
      exact am_wp_J hC hret hT (fun pc' keep' vs' mem'' hc' ⟨n', hlt, hI'⟩ => ih n' hlt pc' keep' vs' mem'' hc' hI') nn pc _ [] mem' hw
  have hl := lv_entry (as.map (am_vl g.2.1)) (n := (am_mi y).2.2.1) (by rw [am_ent_len g.2.1 as hn1]; exact am_ble hn2)
  rw [lg_entry_eq]
  generalize (lg_sl (as.map (am_vl g.2.1)) ++ List.replicate ((am_mi y).2.2.1 - (lg_sl (as.map (am_vl g.2.1))).length) Slot.unset).toArray = L at hl ⊢
  rw [am_ent_args g.2.1 as 0 hn1] at hl
  exact am_wp_J hC hret hT (fun pc keep vs mem' hc ⟨n, hI⟩ => key n pc keep vs mem' hc hI) n0 0 _ [] mem h0 (am_ent_ok as 0 hoa) (fun _ h => by simp at h) hom s.heap [] L hP va_S.rf hl
end
section
def am_T_J9_floorMod_7cf53 (pc : Nat) : Option am_AE := bif Nat.blt pc 10 then (bif Nat.blt pc 4 then (bif Nat.blt pc 2 then (bif Nat.blt pc 1 then (bif Nat.beq pc 0 then some (.iload_n 0, 1, [], 0, []) else none) else (bif Nat.beq pc 1 then some (.iload_n 1, 2, [], 0, []) else none)) else (bif Nat.blt pc 3 then (bif Nat.beq pc 2 then some (.irem, 3, [], 0, []) else none) else (bif Nat.beq pc 3 then some (.istore_n 2, 4, [], 0, []) else none))) else (bif Nat.blt pc 6 then (bif Nat.blt pc 5 then (bif Nat.beq pc 4 then some (.iload_n 0, 5, [], 0, []) else none) else (bif Nat.beq pc 5 then some (.iload_n 1, 6, [], 0, []) else none)) else (bif Nat.blt pc 7 then (bif Nat.beq pc 6 then some (.ixor, 7, [], 0, []) else none) else (bif Nat.beq pc 7 then some (.ifCond .ge 11, 10, [18], 0, []) else none)))) else (bif Nat.blt pc 16 then (bif Nat.blt pc 14 then (bif Nat.blt pc 11 then (bif Nat.beq pc 10 then some (.iload_n 2, 11, [], 0, []) else none) else (bif Nat.beq pc 11 then some (.ifCond .eq 7, 14, [18], 0, []) else none)) else (bif Nat.blt pc 15 then (bif Nat.beq pc 14 then some (.iload_n 2, 15, [], 0, []) else none) else (bif Nat.beq pc 15 then some (.iload_n 1, 16, [], 0, []) else none))) else (bif Nat.blt pc 18 then (bif Nat.blt pc 17 then (bif Nat.beq pc 16 then some (.iadd, 17, [], 0, []) else none) else (bif Nat.beq pc 17 then some (.ireturn, 18, [], 0, []) else none)) else (bif Nat.blt pc 19 then (bif Nat.beq pc 18 then some (.iload_n 2, 19, [], 0, []) else none) else (bif Nat.beq pc 19 then some (.ireturn, 20, [], 0, []) else none))))
set_option maxRecDepth 100000 in
theorem am_ok_J9_floorMod_7cf53 : am_mok 155 20 am_T_J9_floorMod_7cf53 = true := by decide +kernel
def am_T_J9_max_7cf53 (pc : Nat) : Option am_AE := bif Nat.blt pc 5 then (bif Nat.blt pc 1 then (bif Nat.beq pc 0 then some (.iload_n 0, 1, [], 0, []) else none) else (bif Nat.blt pc 2 then (bif Nat.beq pc 1 then some (.iload_n 1, 2, [], 0, []) else none) else (bif Nat.beq pc 2 then some (.if_icmp .lt 7, 5, [9], 0, []) else none))) else (bif Nat.blt pc 9 then (bif Nat.blt pc 6 then (bif Nat.beq pc 5 then some (.iload_n 0, 6, [], 0, []) else none) else (bif Nat.beq pc 6 then some (.goto 4, 9, [10], 0, []) else none)) else (bif Nat.blt pc 10 then (bif Nat.beq pc 9 then some (.iload_n 1, 10, [], 0, []) else none) else (bif Nat.beq pc 10 then some (.ireturn, 11, [], 0, []) else none)))
set_option maxRecDepth 100000 in
theorem am_ok_J9_max_7cf53 : am_mok 156 11 am_T_J9_max_7cf53 = true := by decide +kernel
def am_T_J9_min_7cf53 (pc : Nat) : Option am_AE := bif Nat.blt pc 5 then (bif Nat.blt pc 1 then (bif Nat.beq pc 0 then some (.iload_n 0, 1, [], 0, []) else none) else (bif Nat.blt pc 2 then (bif Nat.beq pc 1 then some (.iload_n 1, 2, [], 0, []) else none) else (bif Nat.beq pc 2 then some (.if_icmp .gt 7, 5, [9], 0, []) else none))) else (bif Nat.blt pc 9 then (bif Nat.blt pc 6 then (bif Nat.beq pc 5 then some (.iload_n 0, 6, [], 0, []) else none) else (bif Nat.beq pc 6 then some (.goto 4, 9, [10], 0, []) else none)) else (bif Nat.blt pc 10 then (bif Nat.beq pc 9 then some (.iload_n 1, 10, [], 0, []) else none) else (bif Nat.beq pc 10 then some (.ireturn, 11, [], 0, []) else none)))
set_option maxRecDepth 100000 in
theorem am_ok_J9_min_7cf53 : am_mok 157 11 am_T_J9_min_7cf53 = true := by decide +kernel
end
