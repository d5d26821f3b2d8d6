section
-- ===== PART A: goes FIRST, ahead of the names: the tables' words, and 'selects' of the private methods out of them =====
/-- a private method of a class that the tables say can be made, by its rows of tables_1 -/
def lw_okq (q : MethodName × Nat) : Prop := (q.1.cls ≠ "java/lang/invoke/MethodHandle" ∧ q.1.cls ≠ "java/lang/invoke/VarHandle") ∧ Cond.instantiable q.1.cls q.2 ∈ tables_1 ∧ Cond.privateMethod q.1 ∈ tables_1 ∧ Cond.instanceMethod q.1 ∈ tables_1
theorem lw_p0 : lw_okq (⟨"RoofMattress$Reader", "readClause", "(LRoofMattress$Text;I)I"⟩, 4) := ⟨⟨by decide +kernel, by decide +kernel⟩, List.mem_of_getElem? (i := 39) (by decide +kernel), List.mem_of_getElem? (i := 361) (by decide +kernel), List.mem_of_getElem? (i := 362) (by decide +kernel)⟩
theorem lw_p1 : lw_okq (⟨"RoofMattress$Reader", "wordFault", "(I)I"⟩, 4) := ⟨⟨by decide +kernel, by decide +kernel⟩, List.mem_of_getElem? (i := 39) (by decide +kernel), List.mem_of_getElem? (i := 369) (by decide +kernel), List.mem_of_getElem? (i := 370) (by decide +kernel)⟩
theorem lw_p2 : lw_okq (⟨"RoofMattress$Reader", "fail", "(II)I"⟩, 4) := ⟨⟨by decide +kernel, by decide +kernel⟩, List.mem_of_getElem? (i := 39) (by decide +kernel), List.mem_of_getElem? (i := 373) (by decide +kernel), List.mem_of_getElem? (i := 374) (by decide +kernel)⟩
theorem lw_p3 : lw_okq (⟨"RoofMattress$Reader", "readNumber", "(LRoofMattress$Text;III)I"⟩, 4) := ⟨⟨by decide +kernel, by decide +kernel⟩, List.mem_of_getElem? (i := 39) (by decide +kernel), List.mem_of_getElem? (i := 377) (by decide +kernel), List.mem_of_getElem? (i := 378) (by decide +kernel)⟩
theorem lw_p4 : lw_okq (⟨"RoofMattress$Reader", "take", "(I)V"⟩, 4) := ⟨⟨by decide +kernel, by decide +kernel⟩, List.mem_of_getElem? (i := 39) (by decide +kernel), List.mem_of_getElem? (i := 389) (by decide +kernel), List.mem_of_getElem? (i := 390) (by decide +kernel)⟩
theorem lw_p5 : lw_okq (⟨"RoofMattress", "milesLeft", "()I"⟩, 11) := ⟨⟨by decide +kernel, by decide +kernel⟩, List.mem_of_getElem? (i := 15) (by decide +kernel), List.mem_of_getElem? (i := 445) (by decide +kernel), List.mem_of_getElem? (i := 446) (by decide +kernel)⟩
theorem lw_p6 : lw_okq (⟨"RoofMattress", "travel", "(IIZ)I"⟩, 11) := ⟨⟨by decide +kernel, by decide +kernel⟩, List.mem_of_getElem? (i := 15) (by decide +kernel), List.mem_of_getElem? (i := 512) (by decide +kernel), List.mem_of_getElem? (i := 513) (by decide +kernel)⟩
theorem lw_p7 : lw_okq (⟨"RoofMattress", "onTheRoof", "()Z"⟩, 11) := ⟨⟨by decide +kernel, by decide +kernel⟩, List.mem_of_getElem? (i := 15) (by decide +kernel), List.mem_of_getElem? (i := 519) (by decide +kernel), List.mem_of_getElem? (i := 520) (by decide +kernel)⟩
theorem lw_p8 : lw_okq (⟨"RoofMattress", "nextDraw", "()I"⟩, 11) := ⟨⟨by decide +kernel, by decide +kernel⟩, List.mem_of_getElem? (i := 15) (by decide +kernel), List.mem_of_getElem? (i := 535) (by decide +kernel), List.mem_of_getElem? (i := 536) (by decide +kernel)⟩
theorem lw_p9 : lw_okq (⟨"RoofMattress", "climb", "(IIII)I"⟩, 11) := ⟨⟨by decide +kernel, by decide +kernel⟩, List.mem_of_getElem? (i := 15) (by decide +kernel), List.mem_of_getElem? (i := 599) (by decide +kernel), List.mem_of_getElem? (i := 600) (by decide +kernel)⟩
theorem lw_p10 : lw_okq (⟨"RoofMattress$Ride", "goesOver", "(LRoofMattress$Plan;III)Z"⟩, 10) := ⟨⟨by decide +kernel, by decide +kernel⟩, List.mem_of_getElem? (i := 252) (by decide +kernel), List.mem_of_getElem? (i := 629) (by decide +kernel), List.mem_of_getElem? (i := 630) (by decide +kernel)⟩
theorem lw_p11 : lw_okq (⟨"RoofMattress$Ride", "holdsNext", "(II)Z"⟩, 10) := ⟨⟨by decide +kernel, by decide +kernel⟩, List.mem_of_getElem? (i := 252) (by decide +kernel), List.mem_of_getElem? (i := 637) (by decide +kernel), List.mem_of_getElem? (i := 638) (by decide +kernel)⟩
theorem lw_p12 : lw_okq (⟨"RoofMattress$Ride", "pullAhead", "()V"⟩, 10) := ⟨⟨by decide +kernel, by decide +kernel⟩, List.mem_of_getElem? (i := 252) (by decide +kernel), List.mem_of_getElem? (i := 641) (by decide +kernel), List.mem_of_getElem? (i := 642) (by decide +kernel)⟩
theorem lw_p13 : lw_okq (⟨"RoofMattressModel", "isRead", "()Z"⟩, 36) := ⟨⟨by decide +kernel, by decide +kernel⟩, List.mem_of_getElem? (i := 752) (by decide +kernel), List.mem_of_getElem? (i := 880) (by decide +kernel), List.mem_of_getElem? (i := 881) (by decide +kernel)⟩
theorem lw_p14 : lw_okq (⟨"RoofMattressModel", "nextToken", "()V"⟩, 36) := ⟨⟨by decide +kernel, by decide +kernel⟩, List.mem_of_getElem? (i := 752) (by decide +kernel), List.mem_of_getElem? (i := 884) (by decide +kernel), List.mem_of_getElem? (i := 885) (by decide +kernel)⟩
theorem lw_p15 : lw_okq (⟨"RoofMattressModel", "isClause", "()Z"⟩, 36) := ⟨⟨by decide +kernel, by decide +kernel⟩, List.mem_of_getElem? (i := 752) (by decide +kernel), List.mem_of_getElem? (i := 888) (by decide +kernel), List.mem_of_getElem? (i := 889) (by decide +kernel)⟩
def lw_privs_1 : List (MethodName × Nat) := [(⟨"RoofMattress$Reader", "readClause", "(LRoofMattress$Text;I)I"⟩, 4), (⟨"RoofMattress$Reader", "wordFault", "(I)I"⟩, 4), (⟨"RoofMattress$Reader", "fail", "(II)I"⟩, 4), (⟨"RoofMattress$Reader", "readNumber", "(LRoofMattress$Text;III)I"⟩, 4), (⟨"RoofMattress$Reader", "take", "(I)V"⟩, 4), (⟨"RoofMattress", "milesLeft", "()I"⟩, 11), (⟨"RoofMattress", "travel", "(IIZ)I"⟩, 11), (⟨"RoofMattress", "onTheRoof", "()Z"⟩, 11), (⟨"RoofMattress", "nextDraw", "()I"⟩, 11), (⟨"RoofMattress", "climb", "(IIII)I"⟩, 11), (⟨"RoofMattress$Ride", "goesOver", "(LRoofMattress$Plan;III)Z"⟩, 10), (⟨"RoofMattress$Ride", "holdsNext", "(II)Z"⟩, 10), (⟨"RoofMattress$Ride", "pullAhead", "()V"⟩, 10), (⟨"RoofMattressModel", "isRead", "()Z"⟩, 36), (⟨"RoofMattressModel", "nextToken", "()V"⟩, 36), (⟨"RoofMattressModel", "isClause", "()Z"⟩, 36)]
theorem lw_r1 : ∀ q ∈ lw_privs_1, lw_okq q := List.forall_mem_cons.mpr ⟨lw_p0, List.forall_mem_cons.mpr ⟨lw_p1, List.forall_mem_cons.mpr ⟨lw_p2, List.forall_mem_cons.mpr ⟨lw_p3, List.forall_mem_cons.mpr ⟨lw_p4, List.forall_mem_cons.mpr ⟨lw_p5, List.forall_mem_cons.mpr ⟨lw_p6, List.forall_mem_cons.mpr ⟨lw_p7, List.forall_mem_cons.mpr ⟨lw_p8, List.forall_mem_cons.mpr ⟨lw_p9, List.forall_mem_cons.mpr ⟨lw_p10, List.forall_mem_cons.mpr ⟨lw_p11, List.forall_mem_cons.mpr ⟨lw_p12, List.forall_mem_cons.mpr ⟨lw_p13, List.forall_mem_cons.mpr ⟨lw_p14, List.forall_mem_cons.mpr ⟨lw_p15, fun _ h => absurd h List.not_mem_nil⟩⟩⟩⟩⟩⟩⟩⟩⟩⟩⟩⟩⟩⟩⟩⟩
theorem lw_p16 : lw_okq (⟨"RoofMattressModel", "fails", "(I)Z"⟩, 36) := ⟨⟨by decide +kernel, by decide +kernel⟩, List.mem_of_getElem? (i := 752) (by decide +kernel), List.mem_of_getElem? (i := 892) (by decide +kernel), List.mem_of_getElem? (i := 893) (by decide +kernel)⟩
theorem lw_p17 : lw_okq (⟨"RoofMattressModel", "areThree", "([IIIIIIII)Z"⟩, 36) := ⟨⟨by decide +kernel, by decide +kernel⟩, List.mem_of_getElem? (i := 752) (by decide +kernel), List.mem_of_getElem? (i := 896) (by decide +kernel), List.mem_of_getElem? (i := 897) (by decide +kernel)⟩
theorem lw_p18 : lw_okq (⟨"RoofMattressModel", "isNumber", "(II)Z"⟩, 36) := ⟨⟨by decide +kernel, by decide +kernel⟩, List.mem_of_getElem? (i := 752) (by decide +kernel), List.mem_of_getElem? (i := 900) (by decide +kernel), List.mem_of_getElem? (i := 901) (by decide +kernel)⟩
theorem lw_p19 : lw_okq (⟨"RoofMattressModel", "pullAll", "([I)V"⟩, 36) := ⟨⟨by decide +kernel, by decide +kernel⟩, List.mem_of_getElem? (i := 752) (by decide +kernel), List.mem_of_getElem? (i := 907) (by decide +kernel), List.mem_of_getElem? (i := 908) (by decide +kernel)⟩
theorem lw_p20 : lw_okq (⟨"RoofMattressModel", "pull", "([II)V"⟩, 36) := ⟨⟨by decide +kernel, by decide +kernel⟩, List.mem_of_getElem? (i := 752) (by decide +kernel), List.mem_of_getElem? (i := 911) (by decide +kernel), List.mem_of_getElem? (i := 912) (by decide +kernel)⟩
theorem lw_p21 : lw_okq (⟨"RoofMattressModel", "allMiles", "()I"⟩, 36) := ⟨⟨by decide +kernel, by decide +kernel⟩, List.mem_of_getElem? (i := 752) (by decide +kernel), List.mem_of_getElem? (i := 915) (by decide +kernel), List.mem_of_getElem? (i := 916) (by decide +kernel)⟩
theorem lw_p22 : lw_okq (⟨"RoofMattressModel", "roadOf", "(I)I"⟩, 36) := ⟨⟨by decide +kernel, by decide +kernel⟩, List.mem_of_getElem? (i := 752) (by decide +kernel), List.mem_of_getElem? (i := 927) (by decide +kernel), List.mem_of_getElem? (i := 928) (by decide +kernel)⟩
theorem lw_p23 : lw_okq (⟨"RoofMattressModel", "isCord", "(I)Z"⟩, 36) := ⟨⟨by decide +kernel, by decide +kernel⟩, List.mem_of_getElem? (i := 752) (by decide +kernel), List.mem_of_getElem? (i := 935) (by decide +kernel), List.mem_of_getElem? (i := 936) (by decide +kernel)⟩
theorem lw_p24 : lw_okq (⟨"RoofMattressModel", "liftBy", "(II)I"⟩, 36) := ⟨⟨by decide +kernel, by decide +kernel⟩, List.mem_of_getElem? (i := 752) (by decide +kernel), List.mem_of_getElem? (i := 949) (by decide +kernel), List.mem_of_getElem? (i := 950) (by decide +kernel)⟩
theorem lw_p25 : lw_okq (⟨"RoofMattressModel", "frontHold", "([I)I"⟩, 36) := ⟨⟨by decide +kernel, by decide +kernel⟩, List.mem_of_getElem? (i := 752) (by decide +kernel), List.mem_of_getElem? (i := 953) (by decide +kernel), List.mem_of_getElem? (i := 954) (by decide +kernel)⟩
theorem lw_p26 : lw_okq (⟨"RoofMattressModel", "backHold", "([I)I"⟩, 36) := ⟨⟨by decide +kernel, by decide +kernel⟩, List.mem_of_getElem? (i := 752) (by decide +kernel), List.mem_of_getElem? (i := 957) (by decide +kernel), List.mem_of_getElem? (i := 958) (by decide +kernel)⟩
theorem lw_p27 : lw_okq (⟨"RoofMattressModel", "holds", "([III)Z"⟩, 36) := ⟨⟨by decide +kernel, by decide +kernel⟩, List.mem_of_getElem? (i := 752) (by decide +kernel), List.mem_of_getElem? (i := 961) (by decide +kernel), List.mem_of_getElem? (i := 962) (by decide +kernel)⟩
theorem lw_p28 : lw_okq (⟨"RoofMattressModel", "holdsBy", "([IIII)Z"⟩, 36) := ⟨⟨by decide +kernel, by decide +kernel⟩, List.mem_of_getElem? (i := 752) (by decide +kernel), List.mem_of_getElem? (i := 965) (by decide +kernel), List.mem_of_getElem? (i := 966) (by decide +kernel)⟩
theorem lw_p29 : lw_okq (⟨"RoofMattressModel", "goMiles", "(IIZ)I"⟩, 36) := ⟨⟨by decide +kernel, by decide +kernel⟩, List.mem_of_getElem? (i := 752) (by decide +kernel), List.mem_of_getElem? (i := 973) (by decide +kernel), List.mem_of_getElem? (i := 974) (by decide +kernel)⟩
theorem lw_p30 : lw_okq (⟨"RoofMattressModel", "canGo", "()Z"⟩, 36) := ⟨⟨by decide +kernel, by decide +kernel⟩, List.mem_of_getElem? (i := 752) (by decide +kernel), List.mem_of_getElem? (i := 977) (by decide +kernel), List.mem_of_getElem? (i := 978) (by decide +kernel)⟩
theorem lw_p31 : lw_okq (⟨"RoofMattressModel", "draw", "(I)I"⟩, 36) := ⟨⟨by decide +kernel, by decide +kernel⟩, List.mem_of_getElem? (i := 752) (by decide +kernel), List.mem_of_getElem? (i := 981) (by decide +kernel), List.mem_of_getElem? (i := 982) (by decide +kernel)⟩
def lw_privs_2 : List (MethodName × Nat) := [(⟨"RoofMattressModel", "fails", "(I)Z"⟩, 36), (⟨"RoofMattressModel", "areThree", "([IIIIIIII)Z"⟩, 36), (⟨"RoofMattressModel", "isNumber", "(II)Z"⟩, 36), (⟨"RoofMattressModel", "pullAll", "([I)V"⟩, 36), (⟨"RoofMattressModel", "pull", "([II)V"⟩, 36), (⟨"RoofMattressModel", "allMiles", "()I"⟩, 36), (⟨"RoofMattressModel", "roadOf", "(I)I"⟩, 36), (⟨"RoofMattressModel", "isCord", "(I)Z"⟩, 36), (⟨"RoofMattressModel", "liftBy", "(II)I"⟩, 36), (⟨"RoofMattressModel", "frontHold", "([I)I"⟩, 36), (⟨"RoofMattressModel", "backHold", "([I)I"⟩, 36), (⟨"RoofMattressModel", "holds", "([III)Z"⟩, 36), (⟨"RoofMattressModel", "holdsBy", "([IIII)Z"⟩, 36), (⟨"RoofMattressModel", "goMiles", "(IIZ)I"⟩, 36), (⟨"RoofMattressModel", "canGo", "()Z"⟩, 36), (⟨"RoofMattressModel", "draw", "(I)I"⟩, 36)]
theorem lw_r2 : ∀ q ∈ lw_privs_2, lw_okq q := List.forall_mem_cons.mpr ⟨lw_p16, List.forall_mem_cons.mpr ⟨lw_p17, List.forall_mem_cons.mpr ⟨lw_p18, List.forall_mem_cons.mpr ⟨lw_p19, List.forall_mem_cons.mpr ⟨lw_p20, List.forall_mem_cons.mpr ⟨lw_p21, List.forall_mem_cons.mpr ⟨lw_p22, List.forall_mem_cons.mpr ⟨lw_p23, List.forall_mem_cons.mpr ⟨lw_p24, List.forall_mem_cons.mpr ⟨lw_p25, List.forall_mem_cons.mpr ⟨lw_p26, List.forall_mem_cons.mpr ⟨lw_p27, List.forall_mem_cons.mpr ⟨lw_p28, List.forall_mem_cons.mpr ⟨lw_p29, List.forall_mem_cons.mpr ⟨lw_p30, List.forall_mem_cons.mpr ⟨lw_p31, fun _ h => absurd h List.not_mem_nil⟩⟩⟩⟩⟩⟩⟩⟩⟩⟩⟩⟩⟩⟩⟩⟩
theorem lw_p32 : lw_okq (⟨"RoofMattressModel", "note", "()V"⟩, 36) := ⟨⟨by decide +kernel, by decide +kernel⟩, List.mem_of_getElem? (i := 752) (by decide +kernel), List.mem_of_getElem? (i := 989) (by decide +kernel), List.mem_of_getElem? (i := 990) (by decide +kernel)⟩
theorem lw_p33 : lw_okq (⟨"RoofMattressModel", "goOn", "([III)Z"⟩, 36) := ⟨⟨by decide +kernel, by decide +kernel⟩, List.mem_of_getElem? (i := 752) (by decide +kernel), List.mem_of_getElem? (i := 993) (by decide +kernel), List.mem_of_getElem? (i := 994) (by decide +kernel)⟩
theorem lw_p34 : lw_okq (⟨"RoofMattressModel", "slacken", "([I)V"⟩, 36) := ⟨⟨by decide +kernel, by decide +kernel⟩, List.mem_of_getElem? (i := 752) (by decide +kernel), List.mem_of_getElem? (i := 997) (by decide +kernel), List.mem_of_getElem? (i := 998) (by decide +kernel)⟩
theorem lw_p35 : lw_okq (⟨"RoofMattressModel", "highestBy", "([III)I"⟩, 36) := ⟨⟨by decide +kernel, by decide +kernel⟩, List.mem_of_getElem? (i := 752) (by decide +kernel), List.mem_of_getElem? (i := 1030) (by decide +kernel), List.mem_of_getElem? (i := 1031) (by decide +kernel)⟩
theorem lw_p36 : lw_okq (⟨"RoofMattressModel", "begin", "()V"⟩, 36) := ⟨⟨by decide +kernel, by decide +kernel⟩, List.mem_of_getElem? (i := 752) (by decide +kernel), List.mem_of_getElem? (i := 1038) (by decide +kernel), List.mem_of_getElem? (i := 1039) (by decide +kernel)⟩
theorem lw_p37 : lw_okq (⟨"RoofMattressModel", "layStops", "(I)Z"⟩, 36) := ⟨⟨by decide +kernel, by decide +kernel⟩, List.mem_of_getElem? (i := 752) (by decide +kernel), List.mem_of_getElem? (i := 1050) (by decide +kernel), List.mem_of_getElem? (i := 1051) (by decide +kernel)⟩
theorem lw_p38 : lw_okq (⟨"RoofMattressModel", "layWays", "(I)V"⟩, 36) := ⟨⟨by decide +kernel, by decide +kernel⟩, List.mem_of_getElem? (i := 752) (by decide +kernel), List.mem_of_getElem? (i := 1062) (by decide +kernel), List.mem_of_getElem? (i := 1063) (by decide +kernel)⟩
theorem lw_p39 : lw_okq (⟨"RoofMattressModel", "couldBe", "(II)Z"⟩, 36) := ⟨⟨by decide +kernel, by decide +kernel⟩, List.mem_of_getElem? (i := 752) (by decide +kernel), List.mem_of_getElem? (i := 1088) (by decide +kernel), List.mem_of_getElem? (i := 1089) (by decide +kernel)⟩
theorem lw_p40 : lw_okq (⟨"RoofMattressModel", "wouldHold", "(IIII)Z"⟩, 36) := ⟨⟨by decide +kernel, by decide +kernel⟩, List.mem_of_getElem? (i := 752) (by decide +kernel), List.mem_of_getElem? (i := 1092) (by decide +kernel), List.mem_of_getElem? (i := 1093) (by decide +kernel)⟩
def lw_privs_3 : List (MethodName × Nat) := [(⟨"RoofMattressModel", "note", "()V"⟩, 36), (⟨"RoofMattressModel", "goOn", "([III)Z"⟩, 36), (⟨"RoofMattressModel", "slacken", "([I)V"⟩, 36), (⟨"RoofMattressModel", "highestBy", "([III)I"⟩, 36), (⟨"RoofMattressModel", "begin", "()V"⟩, 36), (⟨"RoofMattressModel", "layStops", "(I)Z"⟩, 36), (⟨"RoofMattressModel", "layWays", "(I)V"⟩, 36), (⟨"RoofMattressModel", "couldBe", "(II)Z"⟩, 36), (⟨"RoofMattressModel", "wouldHold", "(IIII)Z"⟩, 36)]
theorem lw_r3 : ∀ q ∈ lw_privs_3, lw_okq q := List.forall_mem_cons.mpr ⟨lw_p32, List.forall_mem_cons.mpr ⟨lw_p33, List.forall_mem_cons.mpr ⟨lw_p34, List.forall_mem_cons.mpr ⟨lw_p35, List.forall_mem_cons.mpr ⟨lw_p36, List.forall_mem_cons.mpr ⟨lw_p37, List.forall_mem_cons.mpr ⟨lw_p38, List.forall_mem_cons.mpr ⟨lw_p39, List.forall_mem_cons.mpr ⟨lw_p40, fun _ h => absurd h List.not_mem_nil⟩⟩⟩⟩⟩⟩⟩⟩⟩
def lw_privs : List (MethodName × Nat) := lw_privs_1 ++ (lw_privs_2 ++ (lw_privs_3))
def lw_tbl : List Cond := k2_sels lw_privs ++ tables_1
theorem lw_privs_ok : ∀ q ∈ lw_privs, lw_okq q := by
  show ∀ q ∈ lw_privs_1 ++ (lw_privs_2 ++ (lw_privs_3)), lw_okq q
  exact List.forall_mem_append.mpr ⟨lw_r1, List.forall_mem_append.mpr ⟨lw_r2, lw_r3⟩⟩
theorem goodIn_r {big : List Cond} (ws : List Cond) (ps : List Nat) (hp : ws = ps.filterMap (fun i => big[i]?)) (h : ws.all goodWord = true) : GoodIn big ws := by
  intro w hw
  have h1 := List.all_eq_true.mp h w hw
  rw [hp] at hw
  obtain ⟨i, -, hi⟩ := List.mem_filterMap.mp hw
  have hm : w ∈ big := by first | exact List.mem_of_getElem? hi | exact List.getElem?_mem hi
  exact ⟨hm, good_of_word h1⟩
theorem goodIn_app {big a b : List Cond} (ha : GoodIn big a) (hb : GoodIn big b) : GoodIn big (a ++ b) := fun w h => (List.mem_append.mp h).elim (ha w) (hb w)
theorem goodIn_ca {big a b : List Cond} {c : Cond} (ha : GoodIn big (c :: a)) (hb : GoodIn big b) : GoodIn big (c :: (a ++ b)) := fun w h => (List.mem_cons.mp h).elim (fun e => ha w (List.mem_cons.mpr (Or.inl e))) (fun h => (List.mem_append.mp h).elim (fun h => ha w (List.mem_cons.mpr (Or.inr h))) (hb w))
theorem goodIn_sub {big ws : List Cond} (hm : ∀ w ∈ ws, w ∈ big) (h : ws.all goodWord = true) : GoodIn big ws := fun w hw => ⟨hm w hw, good_of_word (List.all_eq_true.mp h w hw)⟩
def RX0 : String := "RoofMattress$Book"
def TX0 : u_T := fun k => match k with
  | 0 => ("RoofMattress$Book", "cords", "[I", true)
  | 1 => ("RoofMattress$Book", "tights", "[I", true)
  | _ => ("RoofMattress$Book", "count", "I", false)
def tyX0 : Nat → FieldType := fun k => match k with
  | 0 => .array .int
  | 1 => .array .int
  | _ => .int
abbrev wsX00 : List Cond := u_ws RX0 TX0 3
theorem nmX0 : ∀ a, a < 3 → ∀ b, b < 3 → a ≠ b → (TX0 a).2.1 ≠ (TX0 b).2.1 := by decide +kernel
theorem tyX0_ok : ∀ k, k < 3 → parseFieldDescriptor (TX0 k).2.2.1 = some (tyX0 k) := by decide +kernel
abbrev cX0_init : ByteArray := prog_2_method_1_code
def yX0_init : MethodName := ⟨RX0, "<init>", "()V"⟩
abbrev cX0_add : ByteArray := prog_2_method_2_code
def yX0_add : MethodName := ⟨RX0, "add", "(II)Z"⟩
abbrev cX0_firstWrong : ByteArray := prog_2_method_3_code
def yX0_firstWrong : MethodName := ⟨RX0, "firstWrong", "(LRoofMattress$Now;)I"⟩
def RX1 : String := "RoofMattress$Deeds"
def TX1 : u_T := fun k => match k with
  | 0 => ("RoofMattress$Deeds", "rows", "[I", true)
  | 1 => ("RoofMattress$Deeds", "next", "I", false)
  | _ => ("RoofMattress$Deeds", "count", "I", false)
def tyX1 : Nat → FieldType := fun k => match k with
  | 0 => .array .int
  | 1 => .int
  | _ => .int
abbrev wsX10 : List Cond := u_ws RX1 TX1 3
theorem nmX1 : ∀ a, a < 3 → ∀ b, b < 3 → a ≠ b → (TX1 a).2.1 ≠ (TX1 b).2.1 := by decide +kernel
theorem tyX1_ok : ∀ k, k < 3 → parseFieldDescriptor (TX1 k).2.2.1 = some (tyX1 k) := by decide +kernel
abbrev cX1_init : ByteArray := prog_3_method_1_code
def yX1_init : MethodName := ⟨RX1, "<init>", "()V"⟩
abbrev cX1_forget : ByteArray := prog_3_method_2_code
def yX1_forget : MethodName := ⟨RX1, "forget", "()V"⟩
abbrev cX1_push : ByteArray := prog_3_method_3_code
def yX1_push : MethodName := ⟨RX1, "push", "(LRoofMattress$Now;)V"⟩
abbrev cX1_pop : ByteArray := prog_3_method_4_code
def yX1_pop : MethodName := ⟨RX1, "pop", "(LRoofMattress$Now;I)V"⟩
def RX2 : String := "RoofMattress$Images"
def TX2 : u_T := fun k => match k with
  | 0 => ("RoofMattress$Images", "rows", "[I", true)
  | 1 => ("RoofMattress$Images", "seeds", "[I", true)
  | _ => ("RoofMattress$Images", "kept", "[Z", true)
def tyX2 : Nat → FieldType := fun k => match k with
  | 0 => .array .int
  | 1 => .array .int
  | _ => .array .boolean
abbrev wsX20 : List Cond := u_ws RX2 TX2 3
theorem nmX2 : ∀ a, a < 3 → ∀ b, b < 3 → a ≠ b → (TX2 a).2.1 ≠ (TX2 b).2.1 := by decide +kernel
theorem tyX2_ok : ∀ k, k < 3 → parseFieldDescriptor (TX2 k).2.2.1 = some (tyX2 k) := by decide +kernel
abbrev cX2_init : ByteArray := prog_4_method_1_code
def yX2_init : MethodName := ⟨RX2, "<init>", "()V"⟩
abbrev cX2_forget : ByteArray := prog_4_method_2_code
def yX2_forget : MethodName := ⟨RX2, "forget", "()V"⟩
abbrev cX2_put : ByteArray := prog_4_method_3_code
def yX2_put : MethodName := ⟨RX2, "put", "(ILRoofMattress$Now;I)V"⟩
def RX3 : String := "RoofMattress$Now"
def TX3 : u_T := fun k => match k with
  | 0 => ("RoofMattress$Now", "weight", "I", false)
  | 1 => ("RoofMattress$Now", "driven", "I", false)
  | 2 => ("RoofMattress$Now", "seconds", "I", false)
  | 3 => ("RoofMattress$Now", "harms", "I", false)
  | 4 => ("RoofMattress$Now", "lost", "I", false)
  | 5 => ("RoofMattress$Now", "ways", "[I", true)
  | 6 => ("RoofMattress$Now", "tights", "[I", true)
  | _ => ("RoofMattress$Now", "since", "[I", true)
def tyX3 : Nat → FieldType := fun k => match k with
  | 0 => .int
  | 1 => .int
  | 2 => .int
  | 3 => .int
  | 4 => .int
  | 5 => .array .int
  | 6 => .array .int
  | _ => .array .int
abbrev wsX30 : List Cond := u_ws RX3 TX3 8
theorem nmX3 : ∀ a, a < 8 → ∀ b, b < 8 → a ≠ b → (TX3 a).2.1 ≠ (TX3 b).2.1 := by decide +kernel
theorem tyX3_ok : ∀ k, k < 8 → parseFieldDescriptor (TX3 k).2.2.1 = some (tyX3 k) := by decide +kernel
abbrev cX3_init : ByteArray := prog_5_method_1_code
def yX3_init : MethodName := ⟨RX3, "<init>", "()V"⟩
abbrev cX3_begin : ByteArray := prog_5_method_2_code
def yX3_begin : MethodName := ⟨RX3, "begin", "(LRoofMattress$Plan;)V"⟩
abbrev cX3_pull : ByteArray := prog_5_method_3_code
def yX3_pull : MethodName := ⟨RX3, "pull", "(LRoofMattress$Plan;I)V"⟩
abbrev cX3_pullAll : ByteArray := prog_5_method_4_code
def yX3_pullAll : MethodName := ⟨RX3, "pullAll", "(LRoofMattress$Plan;)V"⟩
abbrev cX3_holdFront : ByteArray := prog_5_method_5_code
def yX3_holdFront : MethodName := ⟨RX3, "holdFront", "(LRoofMattress$Plan;I)I"⟩
abbrev cX3_holdBack : ByteArray := prog_5_method_6_code
def yX3_holdBack : MethodName := ⟨RX3, "holdBack", "(LRoofMattress$Plan;I)I"⟩
abbrev cX3_mile : ByteArray := prog_5_method_7_code
def yX3_mile : MethodName := ⟨RX3, "mile", "(LRoofMattress$Plan;II)Z"⟩
abbrev cX3_tightToHold : ByteArray := prog_5_method_8_code
def yX3_tightToHold : MethodName := ⟨RX3, "tightToHold", "(LRoofMattress$Plan;III)I"⟩
abbrev cX3_save : ByteArray := prog_5_method_9_code
def yX3_save : MethodName := ⟨RX3, "save", "([II)V"⟩
abbrev cX3_load : ByteArray := prog_5_method_10_code
def yX3_load : MethodName := ⟨RX3, "load", "([II)V"⟩
def RX4 : String := "RoofMattress$Plan"
def TX4 : u_T := fun k => match k with
  | 0 => ("RoofMattress$Plan", "there", "Z", false)
  | 1 => ("RoofMattress$Plan", "weight", "I", false)
  | 2 => ("RoofMattress$Plan", "area", "I", false)
  | 3 => ("RoofMattress$Plan", "stopSeconds", "I", false)
  | 4 => ("RoofMattress$Plan", "cords", "I", false)
  | 5 => ("RoofMattress$Plan", "roads", "I", false)
  | 6 => ("RoofMattress$Plan", "ways", "[I", true)
  | 7 => ("RoofMattress$Plan", "tights", "[I", true)
  | 8 => ("RoofMattress$Plan", "gives", "[I", true)
  | 9 => ("RoofMattress$Plan", "miles", "[I", true)
  | 10 => ("RoofMattress$Plan", "paces", "[I", true)
  | _ => ("RoofMattress$Plan", "gusts", "[I", true)
def tyX4 : Nat → FieldType := fun k => match k with
  | 0 => .boolean
  | 1 => .int
  | 2 => .int
  | 3 => .int
  | 4 => .int
  | 5 => .int
  | 6 => .array .int
  | 7 => .array .int
  | 8 => .array .int
  | 9 => .array .int
  | 10 => .array .int
  | _ => .array .int
abbrev wsX40 : List Cond := u_ws RX4 TX4 12
theorem nmX4 : ∀ a, a < 12 → ∀ b, b < 12 → a ≠ b → (TX4 a).2.1 ≠ (TX4 b).2.1 := by decide +kernel
theorem tyX4_ok : ∀ k, k < 12 → parseFieldDescriptor (TX4 k).2.2.1 = some (tyX4 k) := by decide +kernel
abbrev cX4_init : ByteArray := prog_6_method_1_code
def yX4_init : MethodName := ⟨RX4, "<init>", "()V"⟩
abbrev cX4_clear : ByteArray := prog_6_method_2_code
def yX4_clear : MethodName := ⟨RX4, "clear", "()V"⟩
abbrev cX4_copy : ByteArray := prog_6_method_3_code
def yX4_copy : MethodName := ⟨RX4, "copy", "(LRoofMattress$Plan;)V"⟩
abbrev cX4_setLoad : ByteArray := prog_6_method_4_code
def yX4_setLoad : MethodName := ⟨RX4, "setLoad", "(III)V"⟩
abbrev cX4_addCord : ByteArray := prog_6_method_5_code
def yX4_addCord : MethodName := ⟨RX4, "addCord", "(III)V"⟩
abbrev cX4_addRoad : ByteArray := prog_6_method_6_code
def yX4_addRoad : MethodName := ⟨RX4, "addRoad", "(III)V"⟩
abbrev cX4_hasCord : ByteArray := prog_6_method_7_code
def yX4_hasCord : MethodName := ⟨RX4, "hasCord", "(I)Z"⟩
abbrev cX4_hasRoad : ByteArray := prog_6_method_8_code
def yX4_hasRoad : MethodName := ⟨RX4, "hasRoad", "(I)Z"⟩
abbrev cX4_allMiles : ByteArray := prog_6_method_9_code
def yX4_allMiles : MethodName := ⟨RX4, "allMiles", "()I"⟩
abbrev cX4_roadBehind : ByteArray := prog_6_method_10_code
def yX4_roadBehind : MethodName := ⟨RX4, "roadBehind", "(I)I"⟩
abbrev cX4_wayIn : ByteArray := prog_6_method_11_code
def yX4_wayIn : MethodName := ⟨RX4, "wayIn", "(II)I"⟩
abbrev cX4_pulledFront : ByteArray := prog_6_method_12_code
def yX4_pulledFront : MethodName := ⟨RX4, "pulledFront", "(I)I"⟩
abbrev cX4_pulledBack : ByteArray := prog_6_method_13_code
def yX4_pulledBack : MethodName := ⟨RX4, "pulledBack", "(I)I"⟩
def RX5 : String := "RoofMattress$Reader"
def TX5 : u_T := fun k => match k with
  | 0 => ("RoofMattress$Reader", "draft", "LRoofMattress$Plan;", true)
  | 1 => ("RoofMattress$Reader", "numbers", "[I", true)
  | 2 => ("RoofMattress$Reader", "fault", "I", false)
  | _ => ("RoofMattress$Reader", "at", "I", false)
def tyX5 : Nat → FieldType := fun k => match k with
  | 0 => .object "RoofMattress$Plan"
  | 1 => .array .int
  | 2 => .int
  | _ => .int
abbrev wsX50 : List Cond := u_ws RX5 TX5 4
theorem nmX5 : ∀ a, a < 4 → ∀ b, b < 4 → a ≠ b → (TX5 a).2.1 ≠ (TX5 b).2.1 := by decide +kernel
theorem tyX5_ok : ∀ k, k < 4 → parseFieldDescriptor (TX5 k).2.2.1 = some (tyX5 k) := by decide +kernel
abbrev cX5_init : ByteArray := prog_7_method_1_code
def yX5_init : MethodName := ⟨RX5, "<init>", "()V"⟩
abbrev cX5_readAll : ByteArray := prog_7_method_2_code
def yX5_readAll : MethodName := ⟨RX5, "readAll", "(LRoofMattress$Text;)V"⟩
abbrev cX5_readClause : ByteArray := prog_7_method_3_code
def yX5_readClause : MethodName := ⟨RX5, "readClause", "(LRoofMattress$Text;I)I"⟩
abbrev cX5_readNumber : ByteArray := prog_7_method_4_code
def yX5_readNumber : MethodName := ⟨RX5, "readNumber", "(LRoofMattress$Text;III)I"⟩
abbrev cX5_fail : ByteArray := prog_7_method_5_code
def yX5_fail : MethodName := ⟨RX5, "fail", "(II)I"⟩
abbrev cX5_wordFault : ByteArray := prog_7_method_6_code
def yX5_wordFault : MethodName := ⟨RX5, "wordFault", "(I)I"⟩
abbrev cX5_take : ByteArray := prog_7_method_7_code
def yX5_take : MethodName := ⟨RX5, "take", "(I)V"⟩
abbrev cX5_kindOf : ByteArray := prog_7_method_8_code
def yX5_kindOf : MethodName := ⟨RX5, "kindOf", "(I)I"⟩
abbrev cX5_isFigure : ByteArray := prog_7_method_9_code
def yX5_isFigure : MethodName := ⟨RX5, "isFigure", "(I)Z"⟩
def RX6 : String := "RoofMattress$Ride"
def TX6 : u_T := fun k => match k with
  | 0 => ("RoofMattress$Ride", "frontNow", "[I", true)
  | 1 => ("RoofMattress$Ride", "backNow", "[I", true)
  | 2 => ("RoofMattress$Ride", "frontPulled", "[I", true)
  | 3 => ("RoofMattress$Ride", "backPulled", "[I", true)
  | 4 => ("RoofMattress$Ride", "fresh", "LRoofMattress$Now;", true)
  | 5 => ("RoofMattress$Ride", "mile", "I", false)
  | 6 => ("RoofMattress$Ride", "pulledAt", "I", false)
  | 7 => ("RoofMattress$Ride", "pulls", "I", false)
  | 8 => ("RoofMattress$Ride", "firstPull", "I", false)
  | _ => ("RoofMattress$Ride", "seconds", "I", false)
def tyX6 : Nat → FieldType := fun k => match k with
  | 0 => .array .int
  | 1 => .array .int
  | 2 => .array .int
  | 3 => .array .int
  | 4 => .object "RoofMattress$Now"
  | 5 => .int
  | 6 => .int
  | 7 => .int
  | 8 => .int
  | _ => .int
abbrev wsX60 : List Cond := u_ws RX6 TX6 10
theorem nmX6 : ∀ a, a < 10 → ∀ b, b < 10 → a ≠ b → (TX6 a).2.1 ≠ (TX6 b).2.1 := by decide +kernel
theorem tyX6_ok : ∀ k, k < 10 → parseFieldDescriptor (TX6 k).2.2.1 = some (tyX6 k) := by decide +kernel
abbrev cX6_init : ByteArray := prog_8_method_1_code
def yX6_init : MethodName := ⟨RX6, "<init>", "()V"⟩
abbrev cX6_prepare : ByteArray := prog_8_method_2_code
def yX6_prepare : MethodName := ⟨RX6, "prepare", "(LRoofMattress$Plan;LRoofMattress$Now;I)V"⟩
abbrev cX6_goes : ByteArray := prog_8_method_3_code
def yX6_goes : MethodName := ⟨RX6, "goes", "(LRoofMattress$Plan;II)Z"⟩
abbrev cX6_goesOver : ByteArray := prog_8_method_4_code
def yX6_goesOver : MethodName := ⟨RX6, "goesOver", "(LRoofMattress$Plan;III)Z"⟩
abbrev cX6_holdsNext : ByteArray := prog_8_method_5_code
def yX6_holdsNext : MethodName := ⟨RX6, "holdsNext", "(II)Z"⟩
abbrev cX6_pullAhead : ByteArray := prog_8_method_6_code
def yX6_pullAhead : MethodName := ⟨RX6, "pullAhead", "()V"⟩
def RX7 : String := "RoofMattress$Seen"
def TX7 : u_T := fun k => match k with
  | 0 => ("RoofMattress$Seen", "cords", "[I", true)
  | 1 => ("RoofMattress$Seen", "paces", "[I", true)
  | 2 => ("RoofMattress$Seen", "gusts", "[I", true)
  | 3 => ("RoofMattress$Seen", "held", "[Z", true)
  | _ => ("RoofMattress$Seen", "count", "I", false)
def tyX7 : Nat → FieldType := fun k => match k with
  | 0 => .array .int
  | 1 => .array .int
  | 2 => .array .int
  | 3 => .array .boolean
  | _ => .int
abbrev wsX70 : List Cond := u_ws RX7 TX7 5
theorem nmX7 : ∀ a, a < 5 → ∀ b, b < 5 → a ≠ b → (TX7 a).2.1 ≠ (TX7 b).2.1 := by decide +kernel
theorem tyX7_ok : ∀ k, k < 5 → parseFieldDescriptor (TX7 k).2.2.1 = some (tyX7 k) := by decide +kernel
abbrev cX7_init : ByteArray := prog_9_method_1_code
def yX7_init : MethodName := ⟨RX7, "<init>", "()V"⟩
abbrev cX7_add : ByteArray := prog_9_method_2_code
def yX7_add : MethodName := ⟨RX7, "add", "(IIIZ)Z"⟩
abbrev cX7_leastTight : ByteArray := prog_9_method_3_code
def yX7_leastTight : MethodName := ⟨RX7, "leastTight", "(LRoofMattress$Plan;LRoofMattress$Now;I)I"⟩
abbrev cX7_mostTight : ByteArray := prog_9_method_4_code
def yX7_mostTight : MethodName := ⟨RX7, "mostTight", "(LRoofMattress$Plan;LRoofMattress$Now;I)I"⟩
def RX8 : String := "RoofMattress$Text"
def TX8 : u_T := fun k => match k with
  | 0 => ("RoofMattress$Text", "letters", "[I", true)
  | _ => ("RoofMattress$Text", "count", "I", false)
def tyX8 : Nat → FieldType := fun k => match k with
  | 0 => .array .int
  | _ => .int
abbrev wsX80 : List Cond := u_ws RX8 TX8 2
theorem nmX8 : ∀ a, a < 2 → ∀ b, b < 2 → a ≠ b → (TX8 a).2.1 ≠ (TX8 b).2.1 := by decide +kernel
theorem tyX8_ok : ∀ k, k < 2 → parseFieldDescriptor (TX8 k).2.2.1 = some (tyX8 k) := by decide +kernel
abbrev cX8_init : ByteArray := prog_10_method_1_code
def yX8_init : MethodName := ⟨RX8, "<init>", "()V"⟩
abbrev cX8_add : ByteArray := prog_10_method_2_code
def yX8_add : MethodName := ⟨RX8, "add", "(I)Z"⟩
abbrev cX8_letterAt : ByteArray := prog_10_method_3_code
def yX8_letterAt : MethodName := ⟨RX8, "letterAt", "(I)I"⟩
abbrev cX8_skipBlanks : ByteArray := prog_10_method_4_code
def yX8_skipBlanks : MethodName := ⟨RX8, "skipBlanks", "(I)I"⟩
def RX9 : String := "RoofMattress"
def TX9 : u_T := fun k => match k with
  | 0 => ("RoofMattress", "text", "LRoofMattress$Text;", true)
  | 1 => ("RoofMattress", "reader", "LRoofMattress$Reader;", true)
  | 2 => ("RoofMattress", "plan", "LRoofMattress$Plan;", true)
  | 3 => ("RoofMattress", "now", "LRoofMattress$Now;", true)
  | 4 => ("RoofMattress", "deeds", "LRoofMattress$Deeds;", true)
  | 5 => ("RoofMattress", "images", "LRoofMattress$Images;", true)
  | 6 => ("RoofMattress", "seen", "LRoofMattress$Seen;", true)
  | 7 => ("RoofMattress", "book", "LRoofMattress$Book;", true)
  | 8 => ("RoofMattress", "ride", "LRoofMattress$Ride;", true)
  | 9 => ("RoofMattress", "faultAt", "I", false)
  | _ => ("RoofMattress", "drawn", "I", false)
def tyX9 : Nat → FieldType := fun k => match k with
  | 0 => .object "RoofMattress$Text"
  | 1 => .object "RoofMattress$Reader"
  | 2 => .object "RoofMattress$Plan"
  | 3 => .object "RoofMattress$Now"
  | 4 => .object "RoofMattress$Deeds"
  | 5 => .object "RoofMattress$Images"
  | 6 => .object "RoofMattress$Seen"
  | 7 => .object "RoofMattress$Book"
  | 8 => .object "RoofMattress$Ride"
  | 9 => .int
  | _ => .int
abbrev wsX90 : List Cond := u_ws RX9 TX9 11
theorem nmX9 : ∀ a, a < 11 → ∀ b, b < 11 → a ≠ b → (TX9 a).2.1 ≠ (TX9 b).2.1 := by decide +kernel
theorem tyX9_ok : ∀ k, k < 11 → parseFieldDescriptor (TX9 k).2.2.1 = some (tyX9 k) := by decide +kernel
abbrev cX9_init : ByteArray := prog_1_method_1_code
def yX9_init : MethodName := ⟨RX9, "<init>", "()V"⟩
abbrev cX9_feed : ByteArray := prog_1_method_2_code
def yX9_feed : MethodName := ⟨RX9, "feed", "(I)I"⟩
abbrev cX9_trip : ByteArray := prog_1_method_3_code
def yX9_trip : MethodName := ⟨RX9, "trip", "()I"⟩
abbrev cX9_fault : ByteArray := prog_1_method_4_code
def yX9_fault : MethodName := ⟨RX9, "fault", "()I"⟩
abbrev cX9_told : ByteArray := prog_1_method_5_code
def yX9_told : MethodName := ⟨RX9, "told", "(I)I"⟩
abbrev cX9_cord : ByteArray := prog_1_method_6_code
def yX9_cord : MethodName := ⟨RX9, "cord", "(II)I"⟩
abbrev cX9_road : ByteArray := prog_1_method_7_code
def yX9_road : MethodName := ⟨RX9, "road", "(II)I"⟩
abbrev cX9_lift : ByteArray := prog_1_method_8_code
def yX9_lift : MethodName := ⟨RX9, "lift", "(III)I"⟩
abbrev cX9_drive : ByteArray := prog_1_method_9_code
def yX9_drive : MethodName := ⟨RX9, "drive", "(II)I"⟩
abbrev cX9_stop : ByteArray := prog_1_method_10_code
def yX9_stop : MethodName := ⟨RX9, "stop", "()I"⟩
abbrev cX9_rain : ByteArray := prog_1_method_11_code
def yX9_rain : MethodName := ⟨RX9, "rain", "(I)I"⟩
abbrev cX9_runs : ByteArray := prog_1_method_12_code
def yX9_runs : MethodName := ⟨RX9, "runs", "(II)I"⟩
abbrev cX9_pick : ByteArray := prog_1_method_13_code
def yX9_pick : MethodName := ⟨RX9, "pick", "()I"⟩
abbrev cX9_drift : ByteArray := prog_1_method_14_code
def yX9_drift : MethodName := ⟨RX9, "drift", "(II)I"⟩
abbrev cX9_undo : ByteArray := prog_1_method_15_code
def yX9_undo : MethodName := ⟨RX9, "undo", "(I)I"⟩
abbrev cX9_highest : ByteArray := prog_1_method_16_code
def yX9_highest : MethodName := ⟨RX9, "highest", "(I)I"⟩
abbrev cX9_slack : ByteArray := prog_1_method_17_code
def yX9_slack : MethodName := ⟨RX9, "slack", "(II)I"⟩
abbrev cX9_far : ByteArray := prog_1_method_18_code
def yX9_far : MethodName := ⟨RX9, "far", "(II)I"⟩
abbrev cX9_stops : ByteArray := prog_1_method_19_code
def yX9_stops : MethodName := ⟨RX9, "stops", "(II)I"⟩
abbrev cX9_soonest : ByteArray := prog_1_method_20_code
def yX9_soonest : MethodName := ⟨RX9, "soonest", "(I)I"⟩
abbrev cX9_where : ByteArray := prog_1_method_21_code
def yX9_where : MethodName := ⟨RX9, "where", "(II)I"⟩
abbrev cX9_hand : ByteArray := prog_1_method_22_code
def yX9_hand : MethodName := ⟨RX9, "hand", "(II)I"⟩
abbrev cX9_van : ByteArray := prog_1_method_23_code
def yX9_van : MethodName := ⟨RX9, "van", "(III)I"⟩
abbrev cX9_knots : ByteArray := prog_1_method_24_code
def yX9_knots : MethodName := ⟨RX9, "knots", "(II)I"⟩
abbrev cX9_see : ByteArray := prog_1_method_25_code
def yX9_see : MethodName := ⟨RX9, "see", "(IIIZ)I"⟩
abbrev cX9_was : ByteArray := prog_1_method_26_code
def yX9_was : MethodName := ⟨RX9, "was", "(II)I"⟩
abbrev cX9_tries : ByteArray := prog_1_method_27_code
def yX9_tries : MethodName := ⟨RX9, "tries", "(II)I"⟩
abbrev cX9_write : ByteArray := prog_1_method_28_code
def yX9_write : MethodName := ⟨RX9, "write", "(II)I"⟩
abbrev cX9_judge : ByteArray := prog_1_method_29_code
def yX9_judge : MethodName := ⟨RX9, "judge", "()I"⟩
abbrev cX9_tear : ByteArray := prog_1_method_30_code
def yX9_tear : MethodName := ⟨RX9, "tear", "()I"⟩
abbrev cX9_seed : ByteArray := prog_1_method_31_code
def yX9_seed : MethodName := ⟨RX9, "seed", "(I)I"⟩
abbrev cX9_keep : ByteArray := prog_1_method_32_code
def yX9_keep : MethodName := ⟨RX9, "keep", "(I)I"⟩
abbrev cX9_goBack : ByteArray := prog_1_method_33_code
def yX9_goBack : MethodName := ⟨RX9, "goBack", "(I)I"⟩
abbrev cX9_onTheRoof : ByteArray := prog_1_method_34_code
def yX9_onTheRoof : MethodName := ⟨RX9, "onTheRoof", "()Z"⟩
abbrev cX9_milesLeft : ByteArray := prog_1_method_35_code
def yX9_milesLeft : MethodName := ⟨RX9, "milesLeft", "()I"⟩
abbrev cX9_travel : ByteArray := prog_1_method_36_code
def yX9_travel : MethodName := ⟨RX9, "travel", "(IIZ)I"⟩
abbrev cX9_nextDraw : ByteArray := prog_1_method_37_code
def yX9_nextDraw : MethodName := ⟨RX9, "nextDraw", "()I"⟩
abbrev cX9_climb : ByteArray := prog_1_method_38_code
def yX9_climb : MethodName := ⟨RX9, "climb", "(IIII)I"⟩
abbrev cX9_within : ByteArray := prog_1_method_39_code
def yX9_within : MethodName := ⟨RX9, "within", "(III)Z"⟩
abbrev cX9_isPace : ByteArray := prog_1_method_40_code
def yX9_isPace : MethodName := ⟨RX9, "isPace", "(I)Z"⟩
abbrev cX9_isGust : ByteArray := prog_1_method_41_code
def yX9_isGust : MethodName := ⟨RX9, "isGust", "(I)Z"⟩
abbrev cX9_liftAll : ByteArray := prog_1_method_42_code
def yX9_liftAll : MethodName := ⟨RX9, "liftAll", "(III)I"⟩
abbrev cX9_liftFront : ByteArray := prog_1_method_43_code
def yX9_liftFront : MethodName := ⟨RX9, "liftFront", "(III)I"⟩
abbrev cX9_liftBack : ByteArray := prog_1_method_44_code
def yX9_liftBack : MethodName := ⟨RX9, "liftBack", "(III)I"⟩
abbrev cX9_cordFront : ByteArray := prog_1_method_45_code
def yX9_cordFront : MethodName := ⟨RX9, "cordFront", "(II)I"⟩
abbrev cX9_cordBack : ByteArray := prog_1_method_46_code
def yX9_cordBack : MethodName := ⟨RX9, "cordBack", "(II)I"⟩
abbrev cX9_tightBehind : ByteArray := prog_1_method_47_code
def yX9_tightBehind : MethodName := ⟨RX9, "tightBehind", "(IIII)I"⟩
def RX10 : String := "RoofMattressModel"
def TX10 : u_T := fun k => match k with
  | 0 => ("RoofMattressModel", "letters", "I", false)
  | 1 => ("RoofMattressModel", "text", "[I", true)
  | 2 => ("RoofMattressModel", "position", "I", false)
  | 3 => ("RoofMattressModel", "tokenAt", "I", false)
  | 4 => ("RoofMattressModel", "token", "I", false)
  | 5 => ("RoofMattressModel", "number", "I", false)
  | 6 => ("RoofMattressModel", "figures", "I", false)
  | 7 => ("RoofMattressModel", "faultAt", "I", false)
  | 8 => ("RoofMattressModel", "faultIs", "I", false)
  | 9 => ("RoofMattressModel", "hasLoad", "Z", false)
  | 10 => ("RoofMattressModel", "readCords", "I", false)
  | 11 => ("RoofMattressModel", "readRoads", "I", false)
  | 12 => ("RoofMattressModel", "readLoad", "[I", true)
  | 13 => ("RoofMattressModel", "readCord", "[I", true)
  | 14 => ("RoofMattressModel", "readRoad", "[I", true)
  | 15 => ("RoofMattressModel", "isTrip", "Z", false)
  | 16 => ("RoofMattressModel", "cords", "I", false)
  | 17 => ("RoofMattressModel", "roads", "I", false)
  | 18 => ("RoofMattressModel", "load", "[I", true)
  | 19 => ("RoofMattressModel", "cord", "[I", true)
  | 20 => ("RoofMattressModel", "road", "[I", true)
  | 21 => ("RoofMattressModel", "now", "[I", true)
  | 22 => ("RoofMattressModel", "tried", "[I", true)
  | 23 => ("RoofMattressModel", "backOf", "[I", true)
  | 24 => ("RoofMattressModel", "backs", "I", false)
  | 25 => ("RoofMattressModel", "image", "[I", true)
  | 26 => ("RoofMattressModel", "imageSeed", "[I", true)
  | 27 => ("RoofMattressModel", "isKept", "[Z", true)
  | 28 => ("RoofMattressModel", "seed", "I", false)
  | 29 => ("RoofMattressModel", "seen", "I", false)
  | 30 => ("RoofMattressModel", "sight", "[I", true)
  | 31 => ("RoofMattressModel", "entries", "I", false)
  | 32 => ("RoofMattressModel", "entry", "[I", true)
  | 33 => ("RoofMattressModel", "could", "[Z", true)
  | 34 => ("RoofMattressModel", "stopsMany", "I", false)
  | _ => ("RoofMattressModel", "stopsFirst", "I", false)
def tyX10 : Nat → FieldType := fun k => match k with
  | 0 => .int
  | 1 => .array .int
  | 2 => .int
  | 3 => .int
  | 4 => .int
  | 5 => .int
  | 6 => .int
  | 7 => .int
  | 8 => .int
  | 9 => .boolean
  | 10 => .int
  | 11 => .int
  | 12 => .array .int
  | 13 => .array .int
  | 14 => .array .int
  | 15 => .boolean
  | 16 => .int
  | 17 => .int
  | 18 => .array .int
  | 19 => .array .int
  | 20 => .array .int
  | 21 => .array .int
  | 22 => .array .int
  | 23 => .array .int
  | 24 => .int
  | 25 => .array .int
  | 26 => .array .int
  | 27 => .array .boolean
  | 28 => .int
  | 29 => .int
  | 30 => .array .int
  | 31 => .int
  | 32 => .array .int
  | 33 => .array .boolean
  | 34 => .int
  | _ => .int
abbrev wsX100 : List Cond := u_ws RX10 TX10 36
theorem nmX10 : ∀ a, a < 36 → ∀ b, b < 36 → a ≠ b → (TX10 a).2.1 ≠ (TX10 b).2.1 := by decide +kernel
theorem tyX10_ok : ∀ k, k < 36 → parseFieldDescriptor (TX10 k).2.2.1 = some (tyX10 k) := by decide +kernel
abbrev cX10_init : ByteArray := prog_12_method_1_code
def yX10_init : MethodName := ⟨RX10, "<init>", "()V"⟩
abbrev cX10_in : ByteArray := prog_12_method_2_code
def yX10_in : MethodName := ⟨RX10, "in", "(III)Z"⟩
abbrev cX10_isCord : ByteArray := prog_12_method_3_code
def yX10_isCord : MethodName := ⟨RX10, "isCord", "(I)Z"⟩
abbrev cX10_feed : ByteArray := prog_12_method_4_code
def yX10_feed : MethodName := ⟨RX10, "feed", "(I)I"⟩
abbrev cX10_nextToken : ByteArray := prog_12_method_5_code
def yX10_nextToken : MethodName := ⟨RX10, "nextToken", "()V"⟩
abbrev cX10_fails : ByteArray := prog_12_method_6_code
def yX10_fails : MethodName := ⟨RX10, "fails", "(I)Z"⟩
abbrev cX10_isNumber : ByteArray := prog_12_method_7_code
def yX10_isNumber : MethodName := ⟨RX10, "isNumber", "(II)Z"⟩
abbrev cX10_areThree : ByteArray := prog_12_method_8_code
def yX10_areThree : MethodName := ⟨RX10, "areThree", "([IIIIIIII)Z"⟩
abbrev cX10_isClause : ByteArray := prog_12_method_9_code
def yX10_isClause : MethodName := ⟨RX10, "isClause", "()Z"⟩
abbrev cX10_isRead : ByteArray := prog_12_method_10_code
def yX10_isRead : MethodName := ⟨RX10, "isRead", "()Z"⟩
abbrev cX10_bring : ByteArray := prog_12_method_11_code
def yX10_bring : MethodName := ⟨RX10, "bring", "([II[III)V"⟩
abbrev cX10_pull : ByteArray := prog_12_method_12_code
def yX10_pull : MethodName := ⟨RX10, "pull", "([II)V"⟩
abbrev cX10_pullAll : ByteArray := prog_12_method_13_code
def yX10_pullAll : MethodName := ⟨RX10, "pullAll", "([I)V"⟩
abbrev cX10_allMiles : ByteArray := prog_12_method_14_code
def yX10_allMiles : MethodName := ⟨RX10, "allMiles", "()I"⟩
abbrev cX10_trip : ByteArray := prog_12_method_15_code
def yX10_trip : MethodName := ⟨RX10, "trip", "()I"⟩
abbrev cX10_fault : ByteArray := prog_12_method_16_code
def yX10_fault : MethodName := ⟨RX10, "fault", "()I"⟩
abbrev cX10_roadOf : ByteArray := prog_12_method_17_code
def yX10_roadOf : MethodName := ⟨RX10, "roadOf", "(I)I"⟩
abbrev cX10_told : ByteArray := prog_12_method_18_code
def yX10_told : MethodName := ⟨RX10, "told", "(I)I"⟩
abbrev cX10_cord : ByteArray := prog_12_method_19_code
def yX10_cord : MethodName := ⟨RX10, "cord", "(II)I"⟩
abbrev cX10_road : ByteArray := prog_12_method_20_code
def yX10_road : MethodName := ⟨RX10, "road", "(II)I"⟩
abbrev cX10_liftBy : ByteArray := prog_12_method_21_code
def yX10_liftBy : MethodName := ⟨RX10, "liftBy", "(II)I"⟩
abbrev cX10_frontHold : ByteArray := prog_12_method_22_code
def yX10_frontHold : MethodName := ⟨RX10, "frontHold", "([I)I"⟩
abbrev cX10_backHold : ByteArray := prog_12_method_23_code
def yX10_backHold : MethodName := ⟨RX10, "backHold", "([I)I"⟩
abbrev cX10_holdsBy : ByteArray := prog_12_method_24_code
def yX10_holdsBy : MethodName := ⟨RX10, "holdsBy", "([IIII)Z"⟩
abbrev cX10_holds : ByteArray := prog_12_method_25_code
def yX10_holds : MethodName := ⟨RX10, "holds", "([III)Z"⟩
abbrev cX10_lift : ByteArray := prog_12_method_26_code
def yX10_lift : MethodName := ⟨RX10, "lift", "(III)I"⟩
abbrev cX10_note : ByteArray := prog_12_method_27_code
def yX10_note : MethodName := ⟨RX10, "note", "()V"⟩
abbrev cX10_slacken : ByteArray := prog_12_method_28_code
def yX10_slacken : MethodName := ⟨RX10, "slacken", "([I)V"⟩
abbrev cX10_goOn : ByteArray := prog_12_method_29_code
def yX10_goOn : MethodName := ⟨RX10, "goOn", "([III)Z"⟩
abbrev cX10_canGo : ByteArray := prog_12_method_30_code
def yX10_canGo : MethodName := ⟨RX10, "canGo", "()Z"⟩
abbrev cX10_goMiles : ByteArray := prog_12_method_31_code
def yX10_goMiles : MethodName := ⟨RX10, "goMiles", "(IIZ)I"⟩
abbrev cX10_drive : ByteArray := prog_12_method_32_code
def yX10_drive : MethodName := ⟨RX10, "drive", "(II)I"⟩
abbrev cX10_stop : ByteArray := prog_12_method_33_code
def yX10_stop : MethodName := ⟨RX10, "stop", "()I"⟩
abbrev cX10_rain : ByteArray := prog_12_method_34_code
def yX10_rain : MethodName := ⟨RX10, "rain", "(I)I"⟩
abbrev cX10_runs : ByteArray := prog_12_method_35_code
def yX10_runs : MethodName := ⟨RX10, "runs", "(II)I"⟩
abbrev cX10_pick : ByteArray := prog_12_method_36_code
def yX10_pick : MethodName := ⟨RX10, "pick", "()I"⟩
abbrev cX10_draw : ByteArray := prog_12_method_37_code
def yX10_draw : MethodName := ⟨RX10, "draw", "(I)I"⟩
abbrev cX10_drift : ByteArray := prog_12_method_38_code
def yX10_drift : MethodName := ⟨RX10, "drift", "(II)I"⟩
abbrev cX10_undo : ByteArray := prog_12_method_39_code
def yX10_undo : MethodName := ⟨RX10, "undo", "(I)I"⟩
abbrev cX10_highestBy : ByteArray := prog_12_method_40_code
def yX10_highestBy : MethodName := ⟨RX10, "highestBy", "([III)I"⟩
abbrev cX10_highest : ByteArray := prog_12_method_41_code
def yX10_highest : MethodName := ⟨RX10, "highest", "(I)I"⟩
abbrev cX10_begin : ByteArray := prog_12_method_42_code
def yX10_begin : MethodName := ⟨RX10, "begin", "()V"⟩
abbrev cX10_slack : ByteArray := prog_12_method_43_code
def yX10_slack : MethodName := ⟨RX10, "slack", "(II)I"⟩
abbrev cX10_far : ByteArray := prog_12_method_44_code
def yX10_far : MethodName := ⟨RX10, "far", "(II)I"⟩
abbrev cX10_layStops : ByteArray := prog_12_method_45_code
def yX10_layStops : MethodName := ⟨RX10, "layStops", "(I)Z"⟩
abbrev cX10_stops : ByteArray := prog_12_method_46_code
def yX10_stops : MethodName := ⟨RX10, "stops", "(II)I"⟩
abbrev cX10_soonest : ByteArray := prog_12_method_47_code
def yX10_soonest : MethodName := ⟨RX10, "soonest", "(I)I"⟩
abbrev cX10_layWays : ByteArray := prog_12_method_48_code
def yX10_layWays : MethodName := ⟨RX10, "layWays", "(I)V"⟩
abbrev cX10_where : ByteArray := prog_12_method_49_code
def yX10_where : MethodName := ⟨RX10, "where", "(II)I"⟩
abbrev cX10_hand : ByteArray := prog_12_method_50_code
def yX10_hand : MethodName := ⟨RX10, "hand", "(II)I"⟩
abbrev cX10_van : ByteArray := prog_12_method_51_code
def yX10_van : MethodName := ⟨RX10, "van", "(III)I"⟩
abbrev cX10_knots : ByteArray := prog_12_method_52_code
def yX10_knots : MethodName := ⟨RX10, "knots", "(II)I"⟩
abbrev cX10_see : ByteArray := prog_12_method_53_code
def yX10_see : MethodName := ⟨RX10, "see", "(IIIZ)I"⟩
abbrev cX10_wouldHold : ByteArray := prog_12_method_54_code
def yX10_wouldHold : MethodName := ⟨RX10, "wouldHold", "(IIII)Z"⟩
abbrev cX10_couldBe : ByteArray := prog_12_method_55_code
def yX10_couldBe : MethodName := ⟨RX10, "couldBe", "(II)Z"⟩
abbrev cX10_was : ByteArray := prog_12_method_56_code
def yX10_was : MethodName := ⟨RX10, "was", "(II)I"⟩
abbrev cX10_tries : ByteArray := prog_12_method_57_code
def yX10_tries : MethodName := ⟨RX10, "tries", "(II)I"⟩
abbrev cX10_write : ByteArray := prog_12_method_58_code
def yX10_write : MethodName := ⟨RX10, "write", "(II)I"⟩
abbrev cX10_judge : ByteArray := prog_12_method_59_code
def yX10_judge : MethodName := ⟨RX10, "judge", "()I"⟩
abbrev cX10_tear : ByteArray := prog_12_method_60_code
def yX10_tear : MethodName := ⟨RX10, "tear", "()I"⟩
abbrev cX10_seed : ByteArray := prog_12_method_61_code
def yX10_seed : MethodName := ⟨RX10, "seed", "(I)I"⟩
abbrev cX10_keep : ByteArray := prog_12_method_62_code
def yX10_keep : MethodName := ⟨RX10, "keep", "(I)I"⟩
abbrev cX10_goBack : ByteArray := prog_12_method_63_code
def yX10_goBack : MethodName := ⟨RX10, "goBack", "(I)I"⟩
def RJ9 : String := "java/lang/Math"
def TJ9 : u_T := fun k => match k with
  | _ => ("", "", "", false)
def tyJ9 : Nat → FieldType := fun k => match k with
  | _ => .int
abbrev wsJ90 : List Cond := u_ws RJ9 TJ9 0
theorem nmJ9 : ∀ a, a < 0 → ∀ b, b < 0 → a ≠ b → (TJ9 a).2.1 ≠ (TJ9 b).2.1 := by decide +kernel
theorem tyJ9_ok : ∀ k, k < 0 → parseFieldDescriptor (TJ9 k).2.2.1 = some (tyJ9 k) := by decide +kernel
abbrev cJ9_floorMod_7cf53 : ByteArray := prog_13_method_50_code
def yJ9_floorMod_7cf53 : MethodName := ⟨RJ9, "floorMod", "(II)I"⟩
abbrev cJ9_max_7cf53 : ByteArray := prog_13_method_65_code
def yJ9_max_7cf53 : MethodName := ⟨RJ9, "max", "(II)I"⟩
abbrev cJ9_min_7cf53 : ByteArray := prog_13_method_69_code
def yJ9_min_7cf53 : MethodName := ⟨RJ9, "min", "(II)I"⟩
def RJ10 : String := "java/lang/System"
def TJ10 : u_T := fun k => match k with
  | _ => ("", "", "", false)
def tyJ10 : Nat → FieldType := fun k => match k with
  | _ => .int
abbrev wsJ100 : List Cond := u_ws RJ10 TJ10 0
theorem nmJ10 : ∀ a, a < 0 → ∀ b, b < 0 → a ≠ b → (TJ10 a).2.1 ≠ (TJ10 b).2.1 := by decide +kernel
theorem tyJ10_ok : ∀ k, k < 0 → parseFieldDescriptor (TJ10 k).2.2.1 = some (tyJ10 k) := by decide +kernel
def RL : String := "RoofMattressLaw"
abbrev cL_law : ByteArray := code
def yL_law : MethodName := ⟨RL, "law", "([I)Z"⟩
end
