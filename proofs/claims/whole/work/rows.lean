section
-- ===== PART A: goes FIRST, ahead of the names: the tables' words, and 'selects' of the private methods out of them =====
/-- a private method of a class that the tables say can be made, by its rows of tables_1 -/
def lw_okq (q : MethodName × Nat) : Prop := (q.1.cls ≠ "java/lang/invoke/MethodHandle" ∧ q.1.cls ≠ "java/lang/invoke/VarHandle") ∧ Cond.instantiable q.1.cls q.2 ∈ tables_1 ∧ Cond.privateMethod q.1 ∈ tables_1 ∧ Cond.instanceMethod q.1 ∈ tables_1
theorem lw_p0 : lw_okq (⟨"OilMemories", "refuse", "(I)I"⟩, 13) := ⟨⟨by decide +kernel, by decide +kernel⟩, List.mem_of_getElem? (i := 14) (by decide +kernel), List.mem_of_getElem? (i := 270) (by decide +kernel), List.mem_of_getElem? (i := 271) (by decide +kernel)⟩
theorem lw_p1 : lw_okq (⟨"OilMemories$Reader", "readChain", "(II)Z"⟩, 4) := ⟨⟨by decide +kernel, by decide +kernel⟩, List.mem_of_getElem? (i := 152) (by decide +kernel), List.mem_of_getElem? (i := 403) (by decide +kernel), List.mem_of_getElem? (i := 404) (by decide +kernel)⟩
theorem lw_p2 : lw_okq (⟨"OilMemories$Reader", "readUnit", "(I)Z"⟩, 4) := ⟨⟨by decide +kernel, by decide +kernel⟩, List.mem_of_getElem? (i := 152) (by decide +kernel), List.mem_of_getElem? (i := 407) (by decide +kernel), List.mem_of_getElem? (i := 408) (by decide +kernel)⟩
theorem lw_p3 : lw_okq (⟨"OilMemories$Reader", "readNumber", "()V"⟩, 4) := ⟨⟨by decide +kernel, by decide +kernel⟩, List.mem_of_getElem? (i := 152) (by decide +kernel), List.mem_of_getElem? (i := 423) (by decide +kernel), List.mem_of_getElem? (i := 424) (by decide +kernel)⟩
theorem lw_p4 : lw_okq (⟨"OilMemories$Reader", "readNot", "(I)Z"⟩, 4) := ⟨⟨by decide +kernel, by decide +kernel⟩, List.mem_of_getElem? (i := 152) (by decide +kernel), List.mem_of_getElem? (i := 432) (by decide +kernel), List.mem_of_getElem? (i := 433) (by decide +kernel)⟩
theorem lw_p5 : lw_okq (⟨"OilMemories$Reader", "readBracketed", "(I)Z"⟩, 4) := ⟨⟨by decide +kernel, by decide +kernel⟩, List.mem_of_getElem? (i := 152) (by decide +kernel), List.mem_of_getElem? (i := 436) (by decide +kernel), List.mem_of_getElem? (i := 437) (by decide +kernel)⟩
theorem lw_p6 : lw_okq (⟨"OilMemories", "litNightsAhead", "(I)I"⟩, 13) := ⟨⟨by decide +kernel, by decide +kernel⟩, List.mem_of_getElem? (i := 14) (by decide +kernel), List.mem_of_getElem? (i := 542) (by decide +kernel), List.mem_of_getElem? (i := 543) (by decide +kernel)⟩
theorem lw_p7 : lw_okq (⟨"OilMemories", "sheetAt", "(I)LOilMemories$Sheet;"⟩, 13) := ⟨⟨by decide +kernel, by decide +kernel⟩, List.mem_of_getElem? (i := 14) (by decide +kernel), List.mem_of_getElem? (i := 584) (by decide +kernel), List.mem_of_getElem? (i := 585) (by decide +kernel)⟩
theorem lw_p8 : lw_okq (⟨"OilMemoriesModel", "error", "(I)I"⟩, 23) := ⟨⟨by decide +kernel, by decide +kernel⟩, List.mem_of_getElem? (i := 707) (by decide +kernel), List.mem_of_getElem? (i := 790) (by decide +kernel), List.mem_of_getElem? (i := 791) (by decide +kernel)⟩
theorem lw_p9 : lw_okq (⟨"OilMemoriesModel", "whole", "()Z"⟩, 23) := ⟨⟨by decide +kernel, by decide +kernel⟩, List.mem_of_getElem? (i := 707) (by decide +kernel), List.mem_of_getElem? (i := 800) (by decide +kernel), List.mem_of_getElem? (i := 801) (by decide +kernel)⟩
theorem lw_p10 : lw_okq (⟨"OilMemoriesModel", "both", "()Z"⟩, 23) := ⟨⟨by decide +kernel, by decide +kernel⟩, List.mem_of_getElem? (i := 707) (by decide +kernel), List.mem_of_getElem? (i := 804) (by decide +kernel), List.mem_of_getElem? (i := 805) (by decide +kernel)⟩
theorem lw_p11 : lw_okq (⟨"OilMemoriesModel", "compared", "()Z"⟩, 23) := ⟨⟨by decide +kernel, by decide +kernel⟩, List.mem_of_getElem? (i := 707) (by decide +kernel), List.mem_of_getElem? (i := 808) (by decide +kernel), List.mem_of_getElem? (i := 809) (by decide +kernel)⟩
theorem lw_p12 : lw_okq (⟨"OilMemoriesModel", "sum", "()Z"⟩, 23) := ⟨⟨by decide +kernel, by decide +kernel⟩, List.mem_of_getElem? (i := 707) (by decide +kernel), List.mem_of_getElem? (i := 812) (by decide +kernel), List.mem_of_getElem? (i := 813) (by decide +kernel)⟩
theorem lw_p13 : lw_okq (⟨"OilMemoriesModel", "product", "()Z"⟩, 23) := ⟨⟨by decide +kernel, by decide +kernel⟩, List.mem_of_getElem? (i := 707) (by decide +kernel), List.mem_of_getElem? (i := 816) (by decide +kernel), List.mem_of_getElem? (i := 817) (by decide +kernel)⟩
theorem lw_p14 : lw_okq (⟨"OilMemoriesModel", "one", "()Z"⟩, 23) := ⟨⟨by decide +kernel, by decide +kernel⟩, List.mem_of_getElem? (i := 707) (by decide +kernel), List.mem_of_getElem? (i := 820) (by decide +kernel), List.mem_of_getElem? (i := 821) (by decide +kernel)⟩
theorem lw_p15 : lw_okq (⟨"OilMemoriesModel", "look", "()I"⟩, 23) := ⟨⟨by decide +kernel, by decide +kernel⟩, List.mem_of_getElem? (i := 707) (by decide +kernel), List.mem_of_getElem? (i := 824) (by decide +kernel), List.mem_of_getElem? (i := 825) (by decide +kernel)⟩
def lw_privs_1 : List (MethodName × Nat) := [(⟨"OilMemories", "refuse", "(I)I"⟩, 13), (⟨"OilMemories$Reader", "readChain", "(II)Z"⟩, 4), (⟨"OilMemories$Reader", "readUnit", "(I)Z"⟩, 4), (⟨"OilMemories$Reader", "readNumber", "()V"⟩, 4), (⟨"OilMemories$Reader", "readNot", "(I)Z"⟩, 4), (⟨"OilMemories$Reader", "readBracketed", "(I)Z"⟩, 4), (⟨"OilMemories", "litNightsAhead", "(I)I"⟩, 13), (⟨"OilMemories", "sheetAt", "(I)LOilMemories$Sheet;"⟩, 13), (⟨"OilMemoriesModel", "error", "(I)I"⟩, 23), (⟨"OilMemoriesModel", "whole", "()Z"⟩, 23), (⟨"OilMemoriesModel", "both", "()Z"⟩, 23), (⟨"OilMemoriesModel", "compared", "()Z"⟩, 23), (⟨"OilMemoriesModel", "sum", "()Z"⟩, 23), (⟨"OilMemoriesModel", "product", "()Z"⟩, 23), (⟨"OilMemoriesModel", "one", "()Z"⟩, 23), (⟨"OilMemoriesModel", "look", "()I"⟩, 23)]
theorem lw_r1 : ∀ q ∈ lw_privs_1, lw_okq q := List.forall_mem_cons.mpr ⟨lw_p0, List.forall_mem_cons.mpr ⟨lw_p1, List.forall_mem_cons.mpr ⟨lw_p2, List.forall_mem_cons.mpr ⟨lw_p3, List.forall_mem_cons.mpr ⟨lw_p4, List.forall_mem_cons.mpr ⟨lw_p5, List.forall_mem_cons.mpr ⟨lw_p6, List.forall_mem_cons.mpr ⟨lw_p7, List.forall_mem_cons.mpr ⟨lw_p8, List.forall_mem_cons.mpr ⟨lw_p9, List.forall_mem_cons.mpr ⟨lw_p10, List.forall_mem_cons.mpr ⟨lw_p11, List.forall_mem_cons.mpr ⟨lw_p12, List.forall_mem_cons.mpr ⟨lw_p13, List.forall_mem_cons.mpr ⟨lw_p14, List.forall_mem_cons.mpr ⟨lw_p15, fun _ h => absurd h List.not_mem_nil⟩⟩⟩⟩⟩⟩⟩⟩⟩⟩⟩⟩⟩⟩⟩⟩
theorem lw_p16 : lw_okq (⟨"OilMemoriesModel", "isName", "(I)Z"⟩, 23) := ⟨⟨by decide +kernel, by decide +kernel⟩, List.mem_of_getElem? (i := 707) (by decide +kernel), List.mem_of_getElem? (i := 828) (by decide +kernel), List.mem_of_getElem? (i := 829) (by decide +kernel)⟩
theorem lw_p17 : lw_okq (⟨"OilMemoriesModel", "step1", "(II)V"⟩, 23) := ⟨⟨by decide +kernel, by decide +kernel⟩, List.mem_of_getElem? (i := 707) (by decide +kernel), List.mem_of_getElem? (i := 832) (by decide +kernel), List.mem_of_getElem? (i := 833) (by decide +kernel)⟩
theorem lw_p18 : lw_okq (⟨"OilMemoriesModel", "opens", "()Z"⟩, 23) := ⟨⟨by decide +kernel, by decide +kernel⟩, List.mem_of_getElem? (i := 707) (by decide +kernel), List.mem_of_getElem? (i := 836) (by decide +kernel), List.mem_of_getElem? (i := 837) (by decide +kernel)⟩
theorem lw_p19 : lw_okq (⟨"OilMemoriesModel", "hasText", "(I)Z"⟩, 23) := ⟨⟨by decide +kernel, by decide +kernel⟩, List.mem_of_getElem? (i := 707) (by decide +kernel), List.mem_of_getElem? (i := 844) (by decide +kernel), List.mem_of_getElem? (i := 845) (by decide +kernel)⟩
theorem lw_p20 : lw_okq (⟨"OilMemoriesModel", "lays1", "(III)V"⟩, 23) := ⟨⟨by decide +kernel, by decide +kernel⟩, List.mem_of_getElem? (i := 707) (by decide +kernel), List.mem_of_getElem? (i := 855) (by decide +kernel), List.mem_of_getElem? (i := 856) (by decide +kernel)⟩
theorem lw_p21 : lw_okq (⟨"OilMemoriesModel", "isMemory", "(I)Z"⟩, 23) := ⟨⟨by decide +kernel, by decide +kernel⟩, List.mem_of_getElem? (i := 707) (by decide +kernel), List.mem_of_getElem? (i := 863) (by decide +kernel), List.mem_of_getElem? (i := 864) (by decide +kernel)⟩
theorem lw_p22 : lw_okq (⟨"OilMemoriesModel", "its", "(II)I"⟩, 23) := ⟨⟨by decide +kernel, by decide +kernel⟩, List.mem_of_getElem? (i := 707) (by decide +kernel), List.mem_of_getElem? (i := 867) (by decide +kernel), List.mem_of_getElem? (i := 868) (by decide +kernel)⟩
theorem lw_p23 : lw_okq (⟨"OilMemoriesModel", "lightBy", "(II)I"⟩, 23) := ⟨⟨by decide +kernel, by decide +kernel⟩, List.mem_of_getElem? (i := 707) (by decide +kernel), List.mem_of_getElem? (i := 871) (by decide +kernel), List.mem_of_getElem? (i := 872) (by decide +kernel)⟩
theorem lw_p24 : lw_okq (⟨"OilMemoriesModel", "burnsOf", "(II)I"⟩, 23) := ⟨⟨by decide +kernel, by decide +kernel⟩, List.mem_of_getElem? (i := 707) (by decide +kernel), List.mem_of_getElem? (i := 878) (by decide +kernel), List.mem_of_getElem? (i := 879) (by decide +kernel)⟩
theorem lw_p25 : lw_okq (⟨"OilMemoriesModel", "lightTold", "(III)I"⟩, 23) := ⟨⟨by decide +kernel, by decide +kernel⟩, List.mem_of_getElem? (i := 707) (by decide +kernel), List.mem_of_getElem? (i := 882) (by decide +kernel), List.mem_of_getElem? (i := 883) (by decide +kernel)⟩
theorem lw_p26 : lw_okq (⟨"OilMemoriesModel", "worked", "(I)I"⟩, 23) := ⟨⟨by decide +kernel, by decide +kernel⟩, List.mem_of_getElem? (i := 707) (by decide +kernel), List.mem_of_getElem? (i := 886) (by decide +kernel), List.mem_of_getElem? (i := 887) (by decide +kernel)⟩
theorem lw_p27 : lw_okq (⟨"OilMemoriesModel", "smokeOf", "(II)I"⟩, 23) := ⟨⟨by decide +kernel, by decide +kernel⟩, List.mem_of_getElem? (i := 707) (by decide +kernel), List.mem_of_getElem? (i := 896) (by decide +kernel), List.mem_of_getElem? (i := 897) (by decide +kernel)⟩
theorem lw_p28 : lw_okq (⟨"OilMemoriesModel", "change1", "(II)I"⟩, 23) := ⟨⟨by decide +kernel, by decide +kernel⟩, List.mem_of_getElem? (i := 707) (by decide +kernel), List.mem_of_getElem? (i := 904) (by decide +kernel), List.mem_of_getElem? (i := 905) (by decide +kernel)⟩
theorem lw_p29 : lw_okq (⟨"OilMemoriesModel", "wantedTold", "(III)I"⟩, 23) := ⟨⟨by decide +kernel, by decide +kernel⟩, List.mem_of_getElem? (i := 707) (by decide +kernel), List.mem_of_getElem? (i := 942) (by decide +kernel), List.mem_of_getElem? (i := 943) (by decide +kernel)⟩
theorem lw_p30 : lw_okq (⟨"OilMemoriesModel", "whyNot", "(II)I"⟩, 23) := ⟨⟨by decide +kernel, by decide +kernel⟩, List.mem_of_getElem? (i := 707) (by decide +kernel), List.mem_of_getElem? (i := 950) (by decide +kernel), List.mem_of_getElem? (i := 951) (by decide +kernel)⟩
theorem lw_p31 : lw_okq (⟨"OilMemoriesModel", "goes", "(I)I"⟩, 23) := ⟨⟨by decide +kernel, by decide +kernel⟩, List.mem_of_getElem? (i := 707) (by decide +kernel), List.mem_of_getElem? (i := 954) (by decide +kernel), List.mem_of_getElem? (i := 955) (by decide +kernel)⟩
def lw_privs_2 : List (MethodName × Nat) := [(⟨"OilMemoriesModel", "isName", "(I)Z"⟩, 23), (⟨"OilMemoriesModel", "step1", "(II)V"⟩, 23), (⟨"OilMemoriesModel", "opens", "()Z"⟩, 23), (⟨"OilMemoriesModel", "hasText", "(I)Z"⟩, 23), (⟨"OilMemoriesModel", "lays1", "(III)V"⟩, 23), (⟨"OilMemoriesModel", "isMemory", "(I)Z"⟩, 23), (⟨"OilMemoriesModel", "its", "(II)I"⟩, 23), (⟨"OilMemoriesModel", "lightBy", "(II)I"⟩, 23), (⟨"OilMemoriesModel", "burnsOf", "(II)I"⟩, 23), (⟨"OilMemoriesModel", "lightTold", "(III)I"⟩, 23), (⟨"OilMemoriesModel", "worked", "(I)I"⟩, 23), (⟨"OilMemoriesModel", "smokeOf", "(II)I"⟩, 23), (⟨"OilMemoriesModel", "change1", "(II)I"⟩, 23), (⟨"OilMemoriesModel", "wantedTold", "(III)I"⟩, 23), (⟨"OilMemoriesModel", "whyNot", "(II)I"⟩, 23), (⟨"OilMemoriesModel", "goes", "(I)I"⟩, 23)]
theorem lw_r2 : ∀ q ∈ lw_privs_2, lw_okq q := List.forall_mem_cons.mpr ⟨lw_p16, List.forall_mem_cons.mpr ⟨lw_p17, List.forall_mem_cons.mpr ⟨lw_p18, List.forall_mem_cons.mpr ⟨lw_p19, List.forall_mem_cons.mpr ⟨lw_p20, List.forall_mem_cons.mpr ⟨lw_p21, List.forall_mem_cons.mpr ⟨lw_p22, List.forall_mem_cons.mpr ⟨lw_p23, List.forall_mem_cons.mpr ⟨lw_p24, List.forall_mem_cons.mpr ⟨lw_p25, List.forall_mem_cons.mpr ⟨lw_p26, List.forall_mem_cons.mpr ⟨lw_p27, List.forall_mem_cons.mpr ⟨lw_p28, List.forall_mem_cons.mpr ⟨lw_p29, List.forall_mem_cons.mpr ⟨lw_p30, List.forall_mem_cons.mpr ⟨lw_p31, fun _ h => absurd h List.not_mem_nil⟩⟩⟩⟩⟩⟩⟩⟩⟩⟩⟩⟩⟩⟩⟩⟩
theorem lw_p32 : lw_okq (⟨"OilMemoriesModel", "aNight", "()Z"⟩, 23) := ⟨⟨by decide +kernel, by decide +kernel⟩, List.mem_of_getElem? (i := 707) (by decide +kernel), List.mem_of_getElem? (i := 958) (by decide +kernel), List.mem_of_getElem? (i := 959) (by decide +kernel)⟩
theorem lw_p33 : lw_okq (⟨"OilMemoriesModel", "tonightSet", "()I"⟩, 23) := ⟨⟨by decide +kernel, by decide +kernel⟩, List.mem_of_getElem? (i := 707) (by decide +kernel), List.mem_of_getElem? (i := 962) (by decide +kernel), List.mem_of_getElem? (i := 963) (by decide +kernel)⟩
theorem lw_p34 : lw_okq (⟨"OilMemoriesModel", "wanted", "()I"⟩, 23) := ⟨⟨by decide +kernel, by decide +kernel⟩, List.mem_of_getElem? (i := 707) (by decide +kernel), List.mem_of_getElem? (i := 966) (by decide +kernel), List.mem_of_getElem? (i := 967) (by decide +kernel)⟩
theorem lw_p35 : lw_okq (⟨"OilMemoriesModel", "givesBy", "(II)I"⟩, 23) := ⟨⟨by decide +kernel, by decide +kernel⟩, List.mem_of_getElem? (i := 707) (by decide +kernel), List.mem_of_getElem? (i := 970) (by decide +kernel), List.mem_of_getElem? (i := 971) (by decide +kernel)⟩
theorem lw_p36 : lw_okq (⟨"OilMemoriesModel", "weathers", "()V"⟩, 23) := ⟨⟨by decide +kernel, by decide +kernel⟩, List.mem_of_getElem? (i := 707) (by decide +kernel), List.mem_of_getElem? (i := 978) (by decide +kernel), List.mem_of_getElem? (i := 979) (by decide +kernel)⟩
theorem lw_p37 : lw_okq (⟨"OilMemoriesModel", "draw", "()I"⟩, 23) := ⟨⟨by decide +kernel, by decide +kernel⟩, List.mem_of_getElem? (i := 707) (by decide +kernel), List.mem_of_getElem? (i := 982) (by decide +kernel), List.mem_of_getElem? (i := 983) (by decide +kernel)⟩
theorem lw_p38 : lw_okq (⟨"OilMemoriesModel", "litNights", "()I"⟩, 23) := ⟨⟨by decide +kernel, by decide +kernel⟩, List.mem_of_getElem? (i := 707) (by decide +kernel), List.mem_of_getElem? (i := 999) (by decide +kernel), List.mem_of_getElem? (i := 1000) (by decide +kernel)⟩
theorem lw_p39 : lw_okq (⟨"OilMemoriesModel", "layDown", "()V"⟩, 23) := ⟨⟨by decide +kernel, by decide +kernel⟩, List.mem_of_getElem? (i := 707) (by decide +kernel), List.mem_of_getElem? (i := 1003) (by decide +kernel), List.mem_of_getElem? (i := 1004) (by decide +kernel)⟩
theorem lw_p40 : lw_okq (⟨"OilMemoriesModel", "layBack", "()V"⟩, 23) := ⟨⟨by decide +kernel, by decide +kernel⟩, List.mem_of_getElem? (i := 707) (by decide +kernel), List.mem_of_getElem? (i := 1007) (by decide +kernel), List.mem_of_getElem? (i := 1008) (by decide +kernel)⟩
theorem lw_p41 : lw_okq (⟨"OilMemoriesModel", "lacks", "(I)I"⟩, 23) := ⟨⟨by decide +kernel, by decide +kernel⟩, List.mem_of_getElem? (i := 707) (by decide +kernel), List.mem_of_getElem? (i := 1038) (by decide +kernel), List.mem_of_getElem? (i := 1039) (by decide +kernel)⟩
theorem lw_p42 : lw_okq (⟨"OilMemoriesModel", "areLeftSo", "(I)Z"⟩, 23) := ⟨⟨by decide +kernel, by decide +kernel⟩, List.mem_of_getElem? (i := 707) (by decide +kernel), List.mem_of_getElem? (i := 1045) (by decide +kernel), List.mem_of_getElem? (i := 1046) (by decide +kernel)⟩
theorem lw_p43 : lw_okq (⟨"OilMemoriesModel", "kindNow", "()I"⟩, 23) := ⟨⟨by decide +kernel, by decide +kernel⟩, List.mem_of_getElem? (i := 707) (by decide +kernel), List.mem_of_getElem? (i := 1053) (by decide +kernel), List.mem_of_getElem? (i := 1054) (by decide +kernel)⟩
theorem lw_p44 : lw_okq (⟨"OilMemoriesModel", "glowsAs", "(II)I"⟩, 23) := ⟨⟨by decide +kernel, by decide +kernel⟩, List.mem_of_getElem? (i := 707) (by decide +kernel), List.mem_of_getElem? (i := 1057) (by decide +kernel), List.mem_of_getElem? (i := 1058) (by decide +kernel)⟩
theorem lw_p45 : lw_okq (⟨"OilMemoriesModel", "starts", "(I)V"⟩, 23) := ⟨⟨by decide +kernel, by decide +kernel⟩, List.mem_of_getElem? (i := 707) (by decide +kernel), List.mem_of_getElem? (i := 1061) (by decide +kernel), List.mem_of_getElem? (i := 1062) (by decide +kernel)⟩
theorem lw_p46 : lw_okq (⟨"OilMemoriesModel", "turnsAs", "(II)I"⟩, 23) := ⟨⟨by decide +kernel, by decide +kernel⟩, List.mem_of_getElem? (i := 707) (by decide +kernel), List.mem_of_getElem? (i := 1065) (by decide +kernel), List.mem_of_getElem? (i := 1066) (by decide +kernel)⟩
theorem lw_p47 : lw_okq (⟨"OilMemoriesModel", "mNow", "()I"⟩, 23) := ⟨⟨by decide +kernel, by decide +kernel⟩, List.mem_of_getElem? (i := 707) (by decide +kernel), List.mem_of_getElem? (i := 1069) (by decide +kernel), List.mem_of_getElem? (i := 1070) (by decide +kernel)⟩
def lw_privs_3 : List (MethodName × Nat) := [(⟨"OilMemoriesModel", "aNight", "()Z"⟩, 23), (⟨"OilMemoriesModel", "tonightSet", "()I"⟩, 23), (⟨"OilMemoriesModel", "wanted", "()I"⟩, 23), (⟨"OilMemoriesModel", "givesBy", "(II)I"⟩, 23), (⟨"OilMemoriesModel", "weathers", "()V"⟩, 23), (⟨"OilMemoriesModel", "draw", "()I"⟩, 23), (⟨"OilMemoriesModel", "litNights", "()I"⟩, 23), (⟨"OilMemoriesModel", "layDown", "()V"⟩, 23), (⟨"OilMemoriesModel", "layBack", "()V"⟩, 23), (⟨"OilMemoriesModel", "lacks", "(I)I"⟩, 23), (⟨"OilMemoriesModel", "areLeftSo", "(I)Z"⟩, 23), (⟨"OilMemoriesModel", "kindNow", "()I"⟩, 23), (⟨"OilMemoriesModel", "glowsAs", "(II)I"⟩, 23), (⟨"OilMemoriesModel", "starts", "(I)V"⟩, 23), (⟨"OilMemoriesModel", "turnsAs", "(II)I"⟩, 23), (⟨"OilMemoriesModel", "mNow", "()I"⟩, 23)]
theorem lw_r3 : ∀ q ∈ lw_privs_3, lw_okq q := List.forall_mem_cons.mpr ⟨lw_p32, List.forall_mem_cons.mpr ⟨lw_p33, List.forall_mem_cons.mpr ⟨lw_p34, List.forall_mem_cons.mpr ⟨lw_p35, List.forall_mem_cons.mpr ⟨lw_p36, List.forall_mem_cons.mpr ⟨lw_p37, List.forall_mem_cons.mpr ⟨lw_p38, List.forall_mem_cons.mpr ⟨lw_p39, List.forall_mem_cons.mpr ⟨lw_p40, List.forall_mem_cons.mpr ⟨lw_p41, List.forall_mem_cons.mpr ⟨lw_p42, List.forall_mem_cons.mpr ⟨lw_p43, List.forall_mem_cons.mpr ⟨lw_p44, List.forall_mem_cons.mpr ⟨lw_p45, List.forall_mem_cons.mpr ⟨lw_p46, List.forall_mem_cons.mpr ⟨lw_p47, fun _ h => absurd h List.not_mem_nil⟩⟩⟩⟩⟩⟩⟩⟩⟩⟩⟩⟩⟩⟩⟩⟩
theorem lw_p48 : lw_okq (⟨"OilMemoriesModel", "guttersAs", "(II)I"⟩, 23) := ⟨⟨by decide +kernel, by decide +kernel⟩, List.mem_of_getElem? (i := 707) (by decide +kernel), List.mem_of_getElem? (i := 1073) (by decide +kernel), List.mem_of_getElem? (i := 1074) (by decide +kernel)⟩
theorem lw_p49 : lw_okq (⟨"OilMemoriesModel", "partsAs", "(II)I"⟩, 23) := ⟨⟨by decide +kernel, by decide +kernel⟩, List.mem_of_getElem? (i := 707) (by decide +kernel), List.mem_of_getElem? (i := 1077) (by decide +kernel), List.mem_of_getElem? (i := 1078) (by decide +kernel)⟩
def lw_privs_4 : List (MethodName × Nat) := [(⟨"OilMemoriesModel", "guttersAs", "(II)I"⟩, 23), (⟨"OilMemoriesModel", "partsAs", "(II)I"⟩, 23)]
theorem lw_r4 : ∀ q ∈ lw_privs_4, lw_okq q := List.forall_mem_cons.mpr ⟨lw_p48, List.forall_mem_cons.mpr ⟨lw_p49, fun _ h => absurd h List.not_mem_nil⟩⟩
def lw_privs : List (MethodName × Nat) := lw_privs_1 ++ (lw_privs_2 ++ (lw_privs_3 ++ (lw_privs_4)))
def lw_tbl : List Cond := k2_sels lw_privs ++ tables_1
theorem lw_privs_ok : ∀ q ∈ lw_privs, lw_okq q := by
  show ∀ q ∈ lw_privs_1 ++ (lw_privs_2 ++ (lw_privs_3 ++ (lw_privs_4))), lw_okq q
  exact List.forall_mem_append.mpr ⟨lw_r1, List.forall_mem_append.mpr ⟨lw_r2, List.forall_mem_append.mpr ⟨lw_r3, lw_r4⟩⟩⟩
end
section
def RX0 : String := "OilMemories$Choice"
def TX0 : u_T := fun k => match k with
  | 0 => ("OilMemories$Choice", "bits", "[I", true)
  | 1 => ("OilMemories$Choice", "gives", "[I", true)
  | 2 => ("OilMemories$Choice", "dears", "[I", true)
  | 3 => ("OilMemories$Choice", "sets", "I", false)
  | _ => ("OilMemories$Choice", "best", "I", false)
def tyX0 : Nat → FieldType := fun k => match k with
  | 0 => .array .int
  | 1 => .array .int
  | 2 => .array .int
  | 3 => .int
  | _ => .int
abbrev wsX00 : List Cond := u_ws RX0 TX0 5
theorem nmX0 : ∀ a, a < 5 → ∀ b, b < 5 → a ≠ b → (TX0 a).2.1 ≠ (TX0 b).2.1 := by decide +kernel
theorem tyX0_ok : ∀ k, k < 5 → parseFieldDescriptor (TX0 k).2.2.1 = some (tyX0 k) := by decide +kernel
abbrev cX0_init : ByteArray := prog_2_method_1_code
def yX0_init : MethodName := ⟨RX0, "<init>", "()V"⟩
abbrev cX0_find : ByteArray := prog_2_method_2_code
def yX0_find : MethodName := ⟨RX0, "find", "(LOilMemories$Tower;I)Z"⟩
abbrev cX0_joinToEach : ByteArray := prog_2_method_3_code
def yX0_joinToEach : MethodName := ⟨RX0, "joinToEach", "(III)V"⟩
abbrev cX0_takeLeastDear : ByteArray := prog_2_method_4_code
def yX0_takeLeastDear : MethodName := ⟨RX0, "takeLeastDear", "(I)V"⟩
abbrev cX0_foundSet : ByteArray := prog_2_method_5_code
def yX0_foundSet : MethodName := ⟨RX0, "foundSet", "()I"⟩
abbrev cX0_foundDear : ByteArray := prog_2_method_6_code
def yX0_foundDear : MethodName := ⟨RX0, "foundDear", "()I"⟩
abbrev cX0_foundGives : ByteArray := prog_2_method_7_code
def yX0_foundGives : MethodName := ⟨RX0, "foundGives", "()I"⟩
def RX1 : String := "OilMemories$Memory"
def TX1 : u_T := fun k => match k with
  | 0 => ("OilMemories$Memory", "kind", "I", false)
  | 1 => ("OilMemories$Memory", "number", "I", false)
  | 2 => ("OilMemories$Memory", "whose", "I", false)
  | 3 => ("OilMemories$Memory", "left", "I", false)
  | _ => ("OilMemories$Memory", "dear", "I", false)
def tyX1 : Nat → FieldType := fun k => match k with
  | 0 => .int
  | 1 => .int
  | 2 => .int
  | 3 => .int
  | _ => .int
abbrev wsX10 : List Cond := u_ws RX1 TX1 5
theorem nmX1 : ∀ a, a < 5 → ∀ b, b < 5 → a ≠ b → (TX1 a).2.1 ≠ (TX1 b).2.1 := by decide +kernel
theorem tyX1_ok : ∀ k, k < 5 → parseFieldDescriptor (TX1 k).2.2.1 = some (tyX1 k) := by decide +kernel
abbrev cX1_init : ByteArray := prog_3_method_1_code
def yX1_init : MethodName := ⟨RX1, "<init>", "()V"⟩
abbrev cX1_copyFrom : ByteArray := prog_3_method_2_code
def yX1_copyFrom : MethodName := ⟨RX1, "copyFrom", "(LOilMemories$Memory;)V"⟩
abbrev cX1_isOf : ByteArray := prog_3_method_3_code
def yX1_isOf : MethodName := ⟨RX1, "isOf", "(I)Z"⟩
abbrev cX1_burns : ByteArray := prog_3_method_4_code
def yX1_burns : MethodName := ⟨RX1, "burns", "(I)I"⟩
abbrev cX1_smoke : ByteArray := prog_3_method_5_code
def yX1_smoke : MethodName := ⟨RX1, "smoke", "(I)I"⟩
def RX2 : String := "OilMemories$Reader"
def TX2 : u_T := fun k => match k with
  | 0 => ("OilMemories$Reader", "draft", "LOilMemories$Text;", true)
  | 1 => ("OilMemories$Reader", "bytes", "LOilMemories$Row;", true)
  | 2 => ("OilMemories$Reader", "use", "I", false)
  | _ => ("OilMemories$Reader", "place", "I", false)
def tyX2 : Nat → FieldType := fun k => match k with
  | 0 => .object "OilMemories$Text"
  | 1 => .object "OilMemories$Row"
  | 2 => .int
  | _ => .int
abbrev wsX20 : List Cond := u_ws RX2 TX2 4
theorem nmX2 : ∀ a, a < 4 → ∀ b, b < 4 → a ≠ b → (TX2 a).2.1 ≠ (TX2 b).2.1 := by decide +kernel
theorem tyX2_ok : ∀ k, k < 4 → parseFieldDescriptor (TX2 k).2.2.1 = some (tyX2 k) := by decide +kernel
abbrev cX2_init : ByteArray := prog_4_method_1_code
def yX2_init : MethodName := ⟨RX2, "<init>", "()V"⟩
abbrev cX2_read : ByteArray := prog_4_method_2_code
def yX2_read : MethodName := ⟨RX2, "read", "(LOilMemories$Row;I)I"⟩
abbrev cX2_readChain : ByteArray := prog_4_method_3_code
def yX2_readChain : MethodName := ⟨RX2, "readChain", "(II)Z"⟩
abbrev cX2_readUnit : ByteArray := prog_4_method_4_code
def yX2_readUnit : MethodName := ⟨RX2, "readUnit", "(I)Z"⟩
abbrev cX2_readNot : ByteArray := prog_4_method_5_code
def yX2_readNot : MethodName := ⟨RX2, "readNot", "(I)Z"⟩
abbrev cX2_readBracketed : ByteArray := prog_4_method_6_code
def yX2_readBracketed : MethodName := ⟨RX2, "readBracketed", "(I)Z"⟩
abbrev cX2_readNumber : ByteArray := prog_4_method_7_code
def yX2_readNumber : MethodName := ⟨RX2, "readNumber", "()V"⟩
abbrev cX2_next : ByteArray := prog_4_method_8_code
def yX2_next : MethodName := ⟨RX2, "next", "()I"⟩
abbrev cX2_nameOf : ByteArray := prog_4_method_9_code
def yX2_nameOf : MethodName := ⟨RX2, "nameOf", "(I)I"⟩
abbrev cX2_levelOf : ByteArray := prog_4_method_10_code
def yX2_levelOf : MethodName := ⟨RX2, "levelOf", "(I)I"⟩
abbrev cX2_isDigit : ByteArray := prog_4_method_11_code
def yX2_isDigit : MethodName := ⟨RX2, "isDigit", "(I)Z"⟩
def RX3 : String := "OilMemories$Row"
def TX3 : u_T := fun k => match k with
  | 0 => ("OilMemories$Row", "values", "[I", true)
  | _ => ("OilMemories$Row", "filled", "I", false)
def tyX3 : Nat → FieldType := fun k => match k with
  | 0 => .array .int
  | _ => .int
abbrev wsX30 : List Cond := u_ws RX3 TX3 2
theorem nmX3 : ∀ a, a < 2 → ∀ b, b < 2 → a ≠ b → (TX3 a).2.1 ≠ (TX3 b).2.1 := by decide +kernel
theorem tyX3_ok : ∀ k, k < 2 → parseFieldDescriptor (TX3 k).2.2.1 = some (tyX3 k) := by decide +kernel
abbrev cX3_init : ByteArray := prog_5_method_1_code
def yX3_init : MethodName := ⟨RX3, "<init>", "(I)V"⟩
abbrev cX3_size : ByteArray := prog_5_method_2_code
def yX3_size : MethodName := ⟨RX3, "size", "()I"⟩
abbrev cX3_has : ByteArray := prog_5_method_3_code
def yX3_has : MethodName := ⟨RX3, "has", "(I)Z"⟩
abbrev cX3_at : ByteArray := prog_5_method_4_code
def yX3_at : MethodName := ⟨RX3, "at", "(I)I"⟩
abbrev cX3_add : ByteArray := prog_5_method_5_code
def yX3_add : MethodName := ⟨RX3, "add", "(I)Z"⟩
abbrev cX3_clear : ByteArray := prog_5_method_6_code
def yX3_clear : MethodName := ⟨RX3, "clear", "()V"⟩
abbrev cX3_copyFrom : ByteArray := prog_5_method_7_code
def yX3_copyFrom : MethodName := ⟨RX3, "copyFrom", "(LOilMemories$Row;)V"⟩
def RX4 : String := "OilMemories$Sheet"
def TX4 : u_T := fun k => match k with
  | 0 => ("OilMemories$Sheet", "numbers", "[I", true)
  | 1 => ("OilMemories$Sheet", "bits", "I", false)
  | _ => ("OilMemories$Sheet", "size", "I", false)
def tyX4 : Nat → FieldType := fun k => match k with
  | 0 => .array .int
  | 1 => .int
  | _ => .int
abbrev wsX40 : List Cond := u_ws RX4 TX4 3
theorem nmX4 : ∀ a, a < 3 → ∀ b, b < 3 → a ≠ b → (TX4 a).2.1 ≠ (TX4 b).2.1 := by decide +kernel
theorem tyX4_ok : ∀ k, k < 3 → parseFieldDescriptor (TX4 k).2.2.1 = some (tyX4 k) := by decide +kernel
abbrev cX4_init : ByteArray := prog_6_method_1_code
def yX4_init : MethodName := ⟨RX4, "<init>", "()V"⟩
abbrev cX4_isMissing : ByteArray := prog_6_method_2_code
def yX4_isMissing : MethodName := ⟨RX4, "isMissing", "()Z"⟩
abbrev cX4_remake : ByteArray := prog_6_method_3_code
def yX4_remake : MethodName := ⟨RX4, "remake", "(II)V"⟩
abbrev cX4_has : ByteArray := prog_6_method_4_code
def yX4_has : MethodName := ⟨RX4, "has", "(I)Z"⟩
abbrev cX4_hasRun : ByteArray := prog_6_method_5_code
def yX4_hasRun : MethodName := ⟨RX4, "hasRun", "(II)Z"⟩
abbrev cX4_at : ByteArray := prog_6_method_6_code
def yX4_at : MethodName := ⟨RX4, "at", "(I)I"⟩
abbrev cX4_write : ByteArray := prog_6_method_7_code
def yX4_write : MethodName := ⟨RX4, "write", "(II)V"⟩
abbrev cX4_take : ByteArray := prog_6_method_8_code
def yX4_take : MethodName := ⟨RX4, "take", "(LOilMemories$Sheet;III)V"⟩
def RX5 : String := "OilMemories$Text"
def TX5 : u_T := fun k => match k with
  | 0 => ("OilMemories$Text", "use", "I", true)
  | 1 => ("OilMemories$Text", "codes", "LOilMemories$Row;", true)
  | _ => ("OilMemories$Text", "stack", "[I", true)
def tyX5 : Nat → FieldType := fun k => match k with
  | 0 => .int
  | 1 => .object "OilMemories$Row"
  | _ => .array .int
abbrev wsX50 : List Cond := u_ws RX5 TX5 3
theorem nmX5 : ∀ a, a < 3 → ∀ b, b < 3 → a ≠ b → (TX5 a).2.1 ≠ (TX5 b).2.1 := by decide +kernel
theorem tyX5_ok : ∀ k, k < 3 → parseFieldDescriptor (TX5 k).2.2.1 = some (tyX5 k) := by decide +kernel
abbrev cX5_init : ByteArray := prog_7_method_1_code
def yX5_init : MethodName := ⟨RX5, "<init>", "(I)V"⟩
abbrev cX5_clear : ByteArray := prog_7_method_2_code
def yX5_clear : MethodName := ⟨RX5, "clear", "()V"⟩
abbrev cX5_copyFrom : ByteArray := prog_7_method_3_code
def yX5_copyFrom : MethodName := ⟨RX5, "copyFrom", "(LOilMemories$Text;)V"⟩
abbrev cX5_gives : ByteArray := prog_7_method_4_code
def yX5_gives : MethodName := ⟨RX5, "gives", "(III)I"⟩
abbrev cX5_held : ByteArray := prog_7_method_5_code
def yX5_held : MethodName := ⟨RX5, "held", "(I)I"⟩
abbrev cX5_joined : ByteArray := prog_7_method_6_code
def yX5_joined : MethodName := ⟨RX5, "joined", "(III)I"⟩
def RX6 : String := "OilMemories$Tower"
def TX6 : u_T := fun k => match k with
  | 0 => ("OilMemories$Tower", "memories", "[LOilMemories$Memory;", true)
  | 1 => ("OilMemories$Tower", "lightText", "LOilMemories$Text;", true)
  | 2 => ("OilMemories$Tower", "wantedText", "LOilMemories$Text;", true)
  | 3 => ("OilMemories$Tower", "count", "I", false)
  | 4 => ("OilMemories$Tower", "weather", "I", false)
  | 5 => ("OilMemories$Tower", "night", "I", false)
  | 6 => ("OilMemories$Tower", "dark", "I", false)
  | _ => ("OilMemories$Tower", "z", "I", false)
def tyX6 : Nat → FieldType := fun k => match k with
  | 0 => .array (.object "OilMemories$Memory")
  | 1 => .object "OilMemories$Text"
  | 2 => .object "OilMemories$Text"
  | 3 => .int
  | 4 => .int
  | 5 => .int
  | 6 => .int
  | _ => .int
abbrev wsX60 : List Cond := u_ws RX6 TX6 8
theorem nmX6 : ∀ a, a < 8 → ∀ b, b < 8 → a ≠ b → (TX6 a).2.1 ≠ (TX6 b).2.1 := by decide +kernel
theorem tyX6_ok : ∀ k, k < 8 → parseFieldDescriptor (TX6 k).2.2.1 = some (tyX6 k) := by decide +kernel
abbrev cX6_init : ByteArray := prog_8_method_1_code
def yX6_init : MethodName := ⟨RX6, "<init>", "()V"⟩
abbrev cX6_copyFrom : ByteArray := prog_8_method_2_code
def yX6_copyFrom : MethodName := ⟨RX6, "copyFrom", "(LOilMemories$Tower;)V"⟩
abbrev cX6_isFull : ByteArray := prog_8_method_3_code
def yX6_isFull : MethodName := ⟨RX6, "isFull", "()Z"⟩
abbrev cX6_at : ByteArray := prog_8_method_4_code
def yX6_at : MethodName := ⟨RX6, "at", "(I)LOilMemories$Memory;"⟩
abbrev cX6_textOf : ByteArray := prog_8_method_5_code
def yX6_textOf : MethodName := ⟨RX6, "textOf", "(I)LOilMemories$Text;"⟩
abbrev cX6_add : ByteArray := prog_8_method_6_code
def yX6_add : MethodName := ⟨RX6, "add", "(III)I"⟩
abbrev cX6_light : ByteArray := prog_8_method_7_code
def yX6_light : MethodName := ⟨RX6, "light", "(LOilMemories$Memory;)I"⟩
abbrev cX6_gives : ByteArray := prog_8_method_8_code
def yX6_gives : MethodName := ⟨RX6, "gives", "(LOilMemories$Memory;)I"⟩
abbrev cX6_wanted : ByteArray := prog_8_method_9_code
def yX6_wanted : MethodName := ⟨RX6, "wanted", "()I"⟩
abbrev cX6_keepersWithOil : ByteArray := prog_8_method_10_code
def yX6_keepersWithOil : MethodName := ⟨RX6, "keepersWithOil", "()I"⟩
abbrev cX6_passNight : ByteArray := prog_8_method_11_code
def yX6_passNight : MethodName := ⟨RX6, "passNight", "(LOilMemories$Choice;I)Z"⟩
abbrev cX6_burn : ByteArray := prog_8_method_12_code
def yX6_burn : MethodName := ⟨RX6, "burn", "(I)V"⟩
abbrev cX6_drawTheDay : ByteArray := prog_8_method_13_code
def yX6_drawTheDay : MethodName := ⟨RX6, "drawTheDay", "()V"⟩
abbrev cX6_draw : ByteArray := prog_8_method_14_code
def yX6_draw : MethodName := ⟨RX6, "draw", "()I"⟩
def RX7 : String := "OilMemories$Voices"
def TX7 : u_T := fun k => match k with
  | 0 => ("OilMemories$Voices", "trace", "LOilMemories$Row;", true)
  | 1 => ("OilMemories$Voices", "kind", "I", false)
  | 2 => ("OilMemories$Voices", "m", "I", false)
  | 3 => ("OilMemories$Voices", "k", "I", false)
  | _ => ("OilMemories$Voices", "parted", "Z", false)
def tyX7 : Nat → FieldType := fun k => match k with
  | 0 => .object "OilMemories$Row"
  | 1 => .int
  | 2 => .int
  | 3 => .int
  | _ => .boolean
abbrev wsX70 : List Cond := u_ws RX7 TX7 5
theorem nmX7 : ∀ a, a < 5 → ∀ b, b < 5 → a ≠ b → (TX7 a).2.1 ≠ (TX7 b).2.1 := by decide +kernel
theorem tyX7_ok : ∀ k, k < 5 → parseFieldDescriptor (TX7 k).2.2.1 = some (tyX7 k) := by decide +kernel
abbrev cX7_init : ByteArray := prog_9_method_1_code
def yX7_init : MethodName := ⟨RX7, "<init>", "()V"⟩
abbrev cX7_speak : ByteArray := prog_9_method_2_code
def yX7_speak : MethodName := ⟨RX7, "speak", "(LOilMemories$Memory;III)I"⟩
abbrev cX7_glow : ByteArray := prog_9_method_3_code
def yX7_glow : MethodName := ⟨RX7, "glow", "(I)I"⟩
abbrev cX7_turn : ByteArray := prog_9_method_4_code
def yX7_turn : MethodName := ⟨RX7, "turn", "(I)I"⟩
abbrev cX7_turnAsEvening : ByteArray := prog_9_method_5_code
def yX7_turnAsEvening : MethodName := ⟨RX7, "turnAsEvening", "(I)I"⟩
abbrev cX7_gutter : ByteArray := prog_9_method_6_code
def yX7_gutter : MethodName := ⟨RX7, "gutter", "(I)I"⟩
abbrev cX7_gutterAsEvening : ByteArray := prog_9_method_7_code
def yX7_gutterAsEvening : MethodName := ⟨RX7, "gutterAsEvening", "(I)I"⟩
abbrev cX7_part : ByteArray := prog_9_method_8_code
def yX7_part : MethodName := ⟨RX7, "part", "(I)I"⟩
def RX8 : String := "OilMemories"
def TX8 : u_T := fun k => match k with
  | 0 => ("OilMemories", "tower", "LOilMemories$Tower;", true)
  | 1 => ("OilMemories", "keptTower", "LOilMemories$Tower;", true)
  | 2 => ("OilMemories", "thought", "LOilMemories$Tower;", true)
  | 3 => ("OilMemories", "choice", "LOilMemories$Choice;", true)
  | 4 => ("OilMemories", "tape", "LOilMemories$Row;", true)
  | 5 => ("OilMemories", "keptTape", "LOilMemories$Row;", true)
  | 6 => ("OilMemories", "waiting", "LOilMemories$Row;", true)
  | 7 => ("OilMemories", "keptWaiting", "LOilMemories$Row;", true)
  | 8 => ("OilMemories", "reader", "LOilMemories$Reader;", true)
  | 9 => ("OilMemories", "voices", "LOilMemories$Voices;", true)
  | 10 => ("OilMemories", "sheets", "[LOilMemories$Sheet;", true)
  | 11 => ("OilMemories", "refusals", "[I", true)
  | _ => ("OilMemories", "images", "I", false)
def tyX8 : Nat → FieldType := fun k => match k with
  | 0 => .object "OilMemories$Tower"
  | 1 => .object "OilMemories$Tower"
  | 2 => .object "OilMemories$Tower"
  | 3 => .object "OilMemories$Choice"
  | 4 => .object "OilMemories$Row"
  | 5 => .object "OilMemories$Row"
  | 6 => .object "OilMemories$Row"
  | 7 => .object "OilMemories$Row"
  | 8 => .object "OilMemories$Reader"
  | 9 => .object "OilMemories$Voices"
  | 10 => .array (.object "OilMemories$Sheet")
  | 11 => .array .int
  | _ => .int
abbrev wsX80 : List Cond := u_ws RX8 TX8 13
theorem nmX8 : ∀ a, a < 13 → ∀ b, b < 13 → a ≠ b → (TX8 a).2.1 ≠ (TX8 b).2.1 := by decide +kernel
theorem tyX8_ok : ∀ k, k < 13 → parseFieldDescriptor (TX8 k).2.2.1 = some (tyX8 k) := by decide +kernel
abbrev cX8_init : ByteArray := prog_1_method_1_code
def yX8_init : MethodName := ⟨RX8, "<init>", "()V"⟩
abbrev cX8_memory : ByteArray := prog_1_method_2_code
def yX8_memory : MethodName := ⟨RX8, "memory", "(III)I"⟩
abbrev cX8_memoryIs : ByteArray := prog_1_method_3_code
def yX8_memoryIs : MethodName := ⟨RX8, "memoryIs", "(II)I"⟩
abbrev cX8_become : ByteArray := prog_1_method_4_code
def yX8_become : MethodName := ⟨RX8, "become", "(II)I"⟩
abbrev cX8_as : ByteArray := prog_1_method_5_code
def yX8_as : MethodName := ⟨RX8, "as", "(II)I"⟩
abbrev cX8_fills : ByteArray := prog_1_method_6_code
def yX8_fills : MethodName := ⟨RX8, "fills", "(II)I"⟩
abbrev cX8_dear : ByteArray := prog_1_method_7_code
def yX8_dear : MethodName := ⟨RX8, "dear", "(II)I"⟩
abbrev cX8_trim : ByteArray := prog_1_method_8_code
def yX8_trim : MethodName := ⟨RX8, "trim", "(II)I"⟩
abbrev cX8_tells : ByteArray := prog_1_method_9_code
def yX8_tells : MethodName := ⟨RX8, "tells", "(II)I"⟩
abbrev cX8_blows : ByteArray := prog_1_method_10_code
def yX8_blows : MethodName := ⟨RX8, "blows", "(I)I"⟩
abbrev cX8_feed : ByteArray := prog_1_method_11_code
def yX8_feed : MethodName := ⟨RX8, "feed", "(JI)I"⟩
abbrev cX8_text : ByteArray := prog_1_method_12_code
def yX8_text : MethodName := ⟨RX8, "text", "(I)I"⟩
abbrev cX8_untell : ByteArray := prog_1_method_13_code
def yX8_untell : MethodName := ⟨RX8, "untell", "(I)I"⟩
abbrev cX8_law : ByteArray := prog_1_method_14_code
def yX8_law : MethodName := ⟨RX8, "law", "(IIII)I"⟩
abbrev cX8_nights : ByteArray := prog_1_method_15_code
def yX8_nights : MethodName := ⟨RX8, "nights", "(I)I"⟩
abbrev cX8_loose : ByteArray := prog_1_method_16_code
def yX8_loose : MethodName := ⟨RX8, "loose", "(I)I"⟩
abbrev cX8_seed : ByteArray := prog_1_method_17_code
def yX8_seed : MethodName := ⟨RX8, "seed", "(I)I"⟩
abbrev cX8_tonight : ByteArray := prog_1_method_18_code
def yX8_tonight : MethodName := ⟨RX8, "tonight", "(I)I"⟩
abbrev cX8_lasts : ByteArray := prog_1_method_19_code
def yX8_lasts : MethodName := ⟨RX8, "lasts", "()I"⟩
abbrev cX8_without : ByteArray := prog_1_method_20_code
def yX8_without : MethodName := ⟨RX8, "without", "(I)I"⟩
abbrev cX8_then : ByteArray := prog_1_method_21_code
def yX8_then : MethodName := ⟨RX8, "then", "(II)I"⟩
abbrev cX8_has : ByteArray := prog_1_method_22_code
def yX8_has : MethodName := ⟨RX8, "has", "(I)I"⟩
abbrev cX8_mixes : ByteArray := prog_1_method_23_code
def yX8_mixes : MethodName := ⟨RX8, "mixes", "(II)I"⟩
abbrev cX8_odds : ByteArray := prog_1_method_24_code
def yX8_odds : MethodName := ⟨RX8, "odds", "(I)I"⟩
abbrev cX8_fits : ByteArray := prog_1_method_25_code
def yX8_fits : MethodName := ⟨RX8, "fits", "(I)I"⟩
abbrev cX8_voice : ByteArray := prog_1_method_26_code
def yX8_voice : MethodName := ⟨RX8, "voice", "(III)I"⟩
abbrev cX8_body : ByteArray := prog_1_method_27_code
def yX8_body : MethodName := ⟨RX8, "body", "(I)I"⟩
abbrev cX8_sheet : ByteArray := prog_1_method_28_code
def yX8_sheet : MethodName := ⟨RX8, "sheet", "(III)I"⟩
abbrev cX8_put : ByteArray := prog_1_method_29_code
def yX8_put : MethodName := ⟨RX8, "put", "(III)I"⟩
abbrev cX8_move : ByteArray := prog_1_method_30_code
def yX8_move : MethodName := ⟨RX8, "move", "(IIIII)I"⟩
abbrev cX8_dears : ByteArray := prog_1_method_31_code
def yX8_dears : MethodName := ⟨RX8, "dears", "(I)I"⟩
abbrev cX8_judge : ByteArray := prog_1_method_32_code
def yX8_judge : MethodName := ⟨RX8, "judge", "(I)I"⟩
abbrev cX8_image : ByteArray := prog_1_method_33_code
def yX8_image : MethodName := ⟨RX8, "image", "()I"⟩
abbrev cX8_restore : ByteArray := prog_1_method_34_code
def yX8_restore : MethodName := ⟨RX8, "restore", "()I"⟩
abbrev cX8_tell : ByteArray := prog_1_method_35_code
def yX8_tell : MethodName := ⟨RX8, "tell", "(I)I"⟩
abbrev cX8_check : ByteArray := prog_1_method_36_code
def yX8_check : MethodName := ⟨RX8, "check", "()I"⟩
abbrev cX8_count : ByteArray := prog_1_method_37_code
def yX8_count : MethodName := ⟨RX8, "count", "(I)I"⟩
abbrev cX8_told : ByteArray := prog_1_method_38_code
def yX8_told : MethodName := ⟨RX8, "told", "(I)I"⟩
abbrev cX8_refuse : ByteArray := prog_1_method_39_code
def yX8_refuse : MethodName := ⟨RX8, "refuse", "(I)I"⟩
abbrev cX8_sheetAt : ByteArray := prog_1_method_40_code
def yX8_sheetAt : MethodName := ⟨RX8, "sheetAt", "(I)LOilMemories$Sheet;"⟩
abbrev cX8_litNightsAhead : ByteArray := prog_1_method_41_code
def yX8_litNightsAhead : MethodName := ⟨RX8, "litNightsAhead", "(I)I"⟩
abbrev cX8_tellsWhatIsLeft : ByteArray := prog_1_method_42_code
def yX8_tellsWhatIsLeft : MethodName := ⟨RX8, "tellsWhatIsLeft", "(LOilMemories$Sheet;LOilMemories$Tower;)Z"⟩
abbrev cX8_inLowestTerms : ByteArray := prog_1_method_43_code
def yX8_inLowestTerms : MethodName := ⟨RX8, "inLowestTerms", "(II)I"⟩
abbrev cX8_isWithin : ByteArray := prog_1_method_44_code
def yX8_isWithin : MethodName := ⟨RX8, "isWithin", "(III)Z"⟩
abbrev cX8_isKeeper : ByteArray := prog_1_method_45_code
def yX8_isKeeper : MethodName := ⟨RX8, "isKeeper", "(I)Z"⟩
abbrev cX8_isKindAndNumber : ByteArray := prog_1_method_46_code
def yX8_isKindAndNumber : MethodName := ⟨RX8, "isKindAndNumber", "(I)Z"⟩
def RX9 : String := "OilMemoriesModel"
def TX9 : u_T := fun k => match k with
  | 0 => ("OilMemoriesModel", "s", "[I", true)
  | 1 => ("OilMemoriesModel", "kept", "[I", true)
  | 2 => ("OilMemoriesModel", "laid", "[I", true)
  | 3 => ("OilMemoriesModel", "images", "I", false)
  | 4 => ("OilMemoriesModel", "errors", "[I", true)
  | 5 => ("OilMemoriesModel", "spared", "I", false)
  | 6 => ("OilMemoriesModel", "at", "I", false)
  | 7 => ("OilMemoriesModel", "open", "I", false)
  | 8 => ("OilMemoriesModel", "steps", "I", false)
  | 9 => ("OilMemoriesModel", "use", "I", false)
  | 10 => ("OilMemoriesModel", "step", "[I", true)
  | 11 => ("OilMemoriesModel", "named", "[I", true)
  | 12 => ("OilMemoriesModel", "pile", "[I", true)
  | 13 => ("OilMemoriesModel", "givesAll", "[I", true)
  | 14 => ("OilMemoriesModel", "dearAll", "[I", true)
  | 15 => ("OilMemoriesModel", "traced", "I", false)
  | 16 => ("OilMemoriesModel", "trace", "[I", true)
  | 17 => ("OilMemoriesModel", "speaks", "I", false)
  | 18 => ("OilMemoriesModel", "isParted", "Z", false)
  | 19 => ("OilMemoriesModel", "bits", "[I", true)
  | 20 => ("OilMemoriesModel", "sizes", "[I", true)
  | 21 => ("OilMemoriesModel", "number", "[I", true)
  | _ => ("OilMemoriesModel", "aside", "[I", true)
def tyX9 : Nat → FieldType := fun k => match k with
  | 0 => .array .int
  | 1 => .array .int
  | 2 => .array .int
  | 3 => .int
  | 4 => .array .int
  | 5 => .int
  | 6 => .int
  | 7 => .int
  | 8 => .int
  | 9 => .int
  | 10 => .array .int
  | 11 => .array .int
  | 12 => .array .int
  | 13 => .array .int
  | 14 => .array .int
  | 15 => .int
  | 16 => .array .int
  | 17 => .int
  | 18 => .boolean
  | 19 => .array .int
  | 20 => .array .int
  | 21 => .array .int
  | _ => .array .int
abbrev wsX90 : List Cond := u_ws RX9 TX9 23
theorem nmX9 : ∀ a, a < 23 → ∀ b, b < 23 → a ≠ b → (TX9 a).2.1 ≠ (TX9 b).2.1 := by decide +kernel
theorem tyX9_ok : ∀ k, k < 23 → parseFieldDescriptor (TX9 k).2.2.1 = some (tyX9 k) := by decide +kernel
abbrev cX9_init : ByteArray := prog_11_method_1_code
def yX9_init : MethodName := ⟨RX9, "<init>", "()V"⟩
abbrev cX9_error : ByteArray := prog_11_method_2_code
def yX9_error : MethodName := ⟨RX9, "error", "(I)I"⟩
abbrev cX9_in : ByteArray := prog_11_method_3_code
def yX9_in : MethodName := ⟨RX9, "in", "(III)Z"⟩
abbrev cX9_held : ByteArray := prog_11_method_4_code
def yX9_held : MethodName := ⟨RX9, "held", "(III)I"⟩
abbrev cX9_copyAll : ByteArray := prog_11_method_5_code
def yX9_copyAll : MethodName := ⟨RX9, "copyAll", "([I[I)V"⟩
abbrev cX9_layDown : ByteArray := prog_11_method_6_code
def yX9_layDown : MethodName := ⟨RX9, "layDown", "()V"⟩
abbrev cX9_layBack : ByteArray := prog_11_method_7_code
def yX9_layBack : MethodName := ⟨RX9, "layBack", "()V"⟩
abbrev cX9_isMemory : ByteArray := prog_11_method_8_code
def yX9_isMemory : MethodName := ⟨RX9, "isMemory", "(I)Z"⟩
abbrev cX9_isKeeper : ByteArray := prog_11_method_9_code
def yX9_isKeeper : MethodName := ⟨RX9, "isKeeper", "(I)Z"⟩
abbrev cX9_its : ByteArray := prog_11_method_10_code
def yX9_its : MethodName := ⟨RX9, "its", "(II)I"⟩
abbrev cX9_lays1 : ByteArray := prog_11_method_11_code
def yX9_lays1 : MethodName := ⟨RX9, "lays1", "(III)V"⟩
abbrev cX9_change1 : ByteArray := prog_11_method_12_code
def yX9_change1 : MethodName := ⟨RX9, "change1", "(II)I"⟩
abbrev cX9_manyIn : ByteArray := prog_11_method_13_code
def yX9_manyIn : MethodName := ⟨RX9, "manyIn", "(I)I"⟩
abbrev cX9_feed : ByteArray := prog_11_method_14_code
def yX9_feed : MethodName := ⟨RX9, "feed", "(JI)I"⟩
abbrev cX9_look : ByteArray := prog_11_method_15_code
def yX9_look : MethodName := ⟨RX9, "look", "()I"⟩
abbrev cX9_isName : ByteArray := prog_11_method_16_code
def yX9_isName : MethodName := ⟨RX9, "isName", "(I)Z"⟩
abbrev cX9_step1 : ByteArray := prog_11_method_17_code
def yX9_step1 : MethodName := ⟨RX9, "step1", "(II)V"⟩
abbrev cX9_whole : ByteArray := prog_11_method_18_code
def yX9_whole : MethodName := ⟨RX9, "whole", "()Z"⟩
abbrev cX9_both : ByteArray := prog_11_method_19_code
def yX9_both : MethodName := ⟨RX9, "both", "()Z"⟩
abbrev cX9_compared : ByteArray := prog_11_method_20_code
def yX9_compared : MethodName := ⟨RX9, "compared", "()Z"⟩
abbrev cX9_sum : ByteArray := prog_11_method_21_code
def yX9_sum : MethodName := ⟨RX9, "sum", "()Z"⟩
abbrev cX9_product : ByteArray := prog_11_method_22_code
def yX9_product : MethodName := ⟨RX9, "product", "()Z"⟩
abbrev cX9_opens : ByteArray := prog_11_method_23_code
def yX9_opens : MethodName := ⟨RX9, "opens", "()Z"⟩
abbrev cX9_one : ByteArray := prog_11_method_24_code
def yX9_one : MethodName := ⟨RX9, "one", "()Z"⟩
abbrev cX9_hasText : ByteArray := prog_11_method_25_code
def yX9_hasText : MethodName := ⟨RX9, "hasText", "(I)Z"⟩
abbrev cX9_text : ByteArray := prog_11_method_26_code
def yX9_text : MethodName := ⟨RX9, "text", "(I)I"⟩
abbrev cX9_untell : ByteArray := prog_11_method_27_code
def yX9_untell : MethodName := ⟨RX9, "untell", "(I)I"⟩
abbrev cX9_joined : ByteArray := prog_11_method_28_code
def yX9_joined : MethodName := ⟨RX9, "joined", "(III)I"⟩
abbrev cX9_worked : ByteArray := prog_11_method_29_code
def yX9_worked : MethodName := ⟨RX9, "worked", "(I)I"⟩
abbrev cX9_burnsOf : ByteArray := prog_11_method_30_code
def yX9_burnsOf : MethodName := ⟨RX9, "burnsOf", "(II)I"⟩
abbrev cX9_smokeOf : ByteArray := prog_11_method_31_code
def yX9_smokeOf : MethodName := ⟨RX9, "smokeOf", "(II)I"⟩
abbrev cX9_lightTold : ByteArray := prog_11_method_32_code
def yX9_lightTold : MethodName := ⟨RX9, "lightTold", "(III)I"⟩
abbrev cX9_wantedTold : ByteArray := prog_11_method_33_code
def yX9_wantedTold : MethodName := ⟨RX9, "wantedTold", "(III)I"⟩
abbrev cX9_lightBy : ByteArray := prog_11_method_34_code
def yX9_lightBy : MethodName := ⟨RX9, "lightBy", "(II)I"⟩
abbrev cX9_givesBy : ByteArray := prog_11_method_35_code
def yX9_givesBy : MethodName := ⟨RX9, "givesBy", "(II)I"⟩
abbrev cX9_wanted : ByteArray := prog_11_method_36_code
def yX9_wanted : MethodName := ⟨RX9, "wanted", "()I"⟩
abbrev cX9_tonightSet : ByteArray := prog_11_method_37_code
def yX9_tonightSet : MethodName := ⟨RX9, "tonightSet", "()I"⟩
abbrev cX9_aNight : ByteArray := prog_11_method_38_code
def yX9_aNight : MethodName := ⟨RX9, "aNight", "()Z"⟩
abbrev cX9_goes : ByteArray := prog_11_method_39_code
def yX9_goes : MethodName := ⟨RX9, "goes", "(I)I"⟩
abbrev cX9_draw : ByteArray := prog_11_method_40_code
def yX9_draw : MethodName := ⟨RX9, "draw", "()I"⟩
abbrev cX9_isKind : ByteArray := prog_11_method_41_code
def yX9_isKind : MethodName := ⟨RX9, "isKind", "(I)Z"⟩
abbrev cX9_memory : ByteArray := prog_11_method_42_code
def yX9_memory : MethodName := ⟨RX9, "memory", "(III)I"⟩
abbrev cX9_memoryIs : ByteArray := prog_11_method_43_code
def yX9_memoryIs : MethodName := ⟨RX9, "memoryIs", "(II)I"⟩
abbrev cX9_become : ByteArray := prog_11_method_44_code
def yX9_become : MethodName := ⟨RX9, "become", "(II)I"⟩
abbrev cX9_as : ByteArray := prog_11_method_45_code
def yX9_as : MethodName := ⟨RX9, "as", "(II)I"⟩
abbrev cX9_fills : ByteArray := prog_11_method_46_code
def yX9_fills : MethodName := ⟨RX9, "fills", "(II)I"⟩
abbrev cX9_dear : ByteArray := prog_11_method_47_code
def yX9_dear : MethodName := ⟨RX9, "dear", "(II)I"⟩
abbrev cX9_trim : ByteArray := prog_11_method_48_code
def yX9_trim : MethodName := ⟨RX9, "trim", "(II)I"⟩
abbrev cX9_tells : ByteArray := prog_11_method_49_code
def yX9_tells : MethodName := ⟨RX9, "tells", "(II)I"⟩
abbrev cX9_blows : ByteArray := prog_11_method_50_code
def yX9_blows : MethodName := ⟨RX9, "blows", "(I)I"⟩
abbrev cX9_law : ByteArray := prog_11_method_51_code
def yX9_law : MethodName := ⟨RX9, "law", "(IIII)I"⟩
abbrev cX9_whyNot : ByteArray := prog_11_method_52_code
def yX9_whyNot : MethodName := ⟨RX9, "whyNot", "(II)I"⟩
abbrev cX9_nights : ByteArray := prog_11_method_53_code
def yX9_nights : MethodName := ⟨RX9, "nights", "(I)I"⟩
abbrev cX9_weathers : ByteArray := prog_11_method_54_code
def yX9_weathers : MethodName := ⟨RX9, "weathers", "()V"⟩
abbrev cX9_loose : ByteArray := prog_11_method_55_code
def yX9_loose : MethodName := ⟨RX9, "loose", "(I)I"⟩
abbrev cX9_seed : ByteArray := prog_11_method_56_code
def yX9_seed : MethodName := ⟨RX9, "seed", "(I)I"⟩
abbrev cX9_tonight : ByteArray := prog_11_method_57_code
def yX9_tonight : MethodName := ⟨RX9, "tonight", "(I)I"⟩
abbrev cX9_litNights : ByteArray := prog_11_method_58_code
def yX9_litNights : MethodName := ⟨RX9, "litNights", "()I"⟩
abbrev cX9_lasts : ByteArray := prog_11_method_59_code
def yX9_lasts : MethodName := ⟨RX9, "lasts", "()I"⟩
abbrev cX9_without : ByteArray := prog_11_method_60_code
def yX9_without : MethodName := ⟨RX9, "without", "(I)I"⟩
abbrev cX9_then : ByteArray := prog_11_method_61_code
def yX9_then : MethodName := ⟨RX9, "then", "(II)I"⟩
abbrev cX9_has : ByteArray := prog_11_method_62_code
def yX9_has : MethodName := ⟨RX9, "has", "(I)I"⟩
abbrev cX9_mixes : ByteArray := prog_11_method_63_code
def yX9_mixes : MethodName := ⟨RX9, "mixes", "(II)I"⟩
abbrev cX9_divisor : ByteArray := prog_11_method_64_code
def yX9_divisor : MethodName := ⟨RX9, "divisor", "(II)I"⟩
abbrev cX9_odds : ByteArray := prog_11_method_65_code
def yX9_odds : MethodName := ⟨RX9, "odds", "(I)I"⟩
abbrev cX9_areLeftSo : ByteArray := prog_11_method_66_code
def yX9_areLeftSo : MethodName := ⟨RX9, "areLeftSo", "(I)Z"⟩
abbrev cX9_fits : ByteArray := prog_11_method_67_code
def yX9_fits : MethodName := ⟨RX9, "fits", "(I)I"⟩
abbrev cX9_starts : ByteArray := prog_11_method_68_code
def yX9_starts : MethodName := ⟨RX9, "starts", "(I)V"⟩
abbrev cX9_above : ByteArray := prog_11_method_69_code
def yX9_above : MethodName := ⟨RX9, "above", "(I)I"⟩
abbrev cX9_kindNow : ByteArray := prog_11_method_70_code
def yX9_kindNow : MethodName := ⟨RX9, "kindNow", "()I"⟩
abbrev cX9_mNow : ByteArray := prog_11_method_71_code
def yX9_mNow : MethodName := ⟨RX9, "mNow", "()I"⟩
abbrev cX9_glowsAs : ByteArray := prog_11_method_72_code
def yX9_glowsAs : MethodName := ⟨RX9, "glowsAs", "(II)I"⟩
abbrev cX9_turnsAs : ByteArray := prog_11_method_73_code
def yX9_turnsAs : MethodName := ⟨RX9, "turnsAs", "(II)I"⟩
abbrev cX9_guttersAs : ByteArray := prog_11_method_74_code
def yX9_guttersAs : MethodName := ⟨RX9, "guttersAs", "(II)I"⟩
abbrev cX9_partsAs : ByteArray := prog_11_method_75_code
def yX9_partsAs : MethodName := ⟨RX9, "partsAs", "(II)I"⟩
abbrev cX9_voice : ByteArray := prog_11_method_76_code
def yX9_voice : MethodName := ⟨RX9, "voice", "(III)I"⟩
abbrev cX9_body : ByteArray := prog_11_method_77_code
def yX9_body : MethodName := ⟨RX9, "body", "(I)I"⟩
abbrev cX9_isSheet : ByteArray := prog_11_method_78_code
def yX9_isSheet : MethodName := ⟨RX9, "isSheet", "(I)Z"⟩
abbrev cX9_sheet : ByteArray := prog_11_method_79_code
def yX9_sheet : MethodName := ⟨RX9, "sheet", "(III)I"⟩
abbrev cX9_put : ByteArray := prog_11_method_80_code
def yX9_put : MethodName := ⟨RX9, "put", "(III)I"⟩
abbrev cX9_move : ByteArray := prog_11_method_81_code
def yX9_move : MethodName := ⟨RX9, "move", "(IIIII)I"⟩
abbrev cX9_lacks : ByteArray := prog_11_method_82_code
def yX9_lacks : MethodName := ⟨RX9, "lacks", "(I)I"⟩
abbrev cX9_dears : ByteArray := prog_11_method_83_code
def yX9_dears : MethodName := ⟨RX9, "dears", "(I)I"⟩
abbrev cX9_judge : ByteArray := prog_11_method_84_code
def yX9_judge : MethodName := ⟨RX9, "judge", "(I)I"⟩
abbrev cX9_image : ByteArray := prog_11_method_85_code
def yX9_image : MethodName := ⟨RX9, "image", "()I"⟩
abbrev cX9_restore : ByteArray := prog_11_method_86_code
def yX9_restore : MethodName := ⟨RX9, "restore", "()I"⟩
abbrev cX9_tell : ByteArray := prog_11_method_87_code
def yX9_tell : MethodName := ⟨RX9, "tell", "(I)I"⟩
abbrev cX9_check : ByteArray := prog_11_method_88_code
def yX9_check : MethodName := ⟨RX9, "check", "()I"⟩
abbrev cX9_count : ByteArray := prog_11_method_89_code
def yX9_count : MethodName := ⟨RX9, "count", "(I)I"⟩
abbrev cX9_told : ByteArray := prog_11_method_90_code
def yX9_told : MethodName := ⟨RX9, "told", "(I)I"⟩
def RJ6 : String := "java/lang/Integer"
def TJ6 : u_T := fun k => match k with
  | _ => ("", "", "", false)
def tyJ6 : Nat → FieldType := fun k => match k with
  | _ => .int
abbrev wsJ60 : List Cond := u_ws RJ6 TJ6 0
theorem nmJ6 : ∀ a, a < 0 → ∀ b, b < 0 → a ≠ b → (TJ6 a).2.1 ≠ (TJ6 b).2.1 := by decide +kernel
theorem tyJ6_ok : ∀ k, k < 0 → parseFieldDescriptor (TJ6 k).2.2.1 = some (tyJ6 k) := by decide +kernel
abbrev cJ6_bitCount_0f7a4 : ByteArray := prog_12_method_49_code
def yJ6_bitCount_0f7a4 : MethodName := ⟨RJ6, "bitCount", "(I)I"⟩
def RJ9 : String := "java/lang/Math"
def TJ9 : u_T := fun k => match k with
  | _ => ("", "", "", false)
def tyJ9 : Nat → FieldType := fun k => match k with
  | _ => .int
abbrev wsJ90 : List Cond := u_ws RJ9 TJ9 0
theorem nmJ9 : ∀ a, a < 0 → ∀ b, b < 0 → a ≠ b → (TJ9 a).2.1 ≠ (TJ9 b).2.1 := by decide +kernel
theorem tyJ9_ok : ∀ k, k < 0 → parseFieldDescriptor (TJ9 k).2.2.1 = some (tyJ9 k) := by decide +kernel
abbrev cJ9_min_7cf53 : ByteArray := prog_13_method_69_code
def yJ9_min_7cf53 : MethodName := ⟨RJ9, "min", "(II)I"⟩
def RL : String := "OilMemoriesLaw"
abbrev cL_law : ByteArray := code
def yL_law : MethodName := ⟨RL, "law", "([I)Z"⟩
abbrev vwCl : List vw_C := [(RX0, TX0, 5), (RX1, TX1, 5), (RX2, TX2, 4), (RX3, TX3, 2), (RX4, TX4, 3), (RX5, TX5, 3), (RX6, TX6, 8), (RX7, TX7, 5), (RX8, TX8, 13), (RX9, TX9, 23)]
end
section
theorem dX0_init_0 : decode cX0_init 0 = .ok (.aload_n 0, 1) := by decide +kernel
theorem dX0_init_1 : decode cX0_init 1 = .ok (.invokespecial 3, 3) := by decide +kernel
theorem dX0_init_4 : decode cX0_init 4 = .ok (.aload_n 0, 1) := by decide +kernel
theorem dX0_init_5 : decode cX0_init 5 = .ok (.sipush 512, 3) := by decide +kernel
theorem dX0_init_8 : decode cX0_init 8 = .ok (.newarray .int, 2) := by decide +kernel
theorem dX0_init_10 : decode cX0_init 10 = .ok (.putfield 9, 3) := by decide +kernel
theorem dX0_init_13 : decode cX0_init 13 = .ok (.aload_n 0, 1) := by decide +kernel
theorem dX0_init_14 : decode cX0_init 14 = .ok (.sipush 512, 3) := by decide +kernel
theorem dX0_init_17 : decode cX0_init 17 = .ok (.newarray .int, 2) := by decide +kernel
theorem dX0_init_19 : decode cX0_init 19 = .ok (.putfield 15, 3) := by decide +kernel
theorem dX0_init_22 : decode cX0_init 22 = .ok (.aload_n 0, 1) := by decide +kernel
theorem dX0_init_23 : decode cX0_init 23 = .ok (.sipush 512, 3) := by decide +kernel
theorem dX0_init_26 : decode cX0_init 26 = .ok (.newarray .int, 2) := by decide +kernel
theorem dX0_init_28 : decode cX0_init 28 = .ok (.putfield 18, 3) := by decide +kernel
theorem dX0_init_31 : decode cX0_init 31 = .ok (.aload_n 0, 1) := by decide +kernel
theorem dX0_init_32 : decode cX0_init 32 = .ok (.iconst 1, 1) := by decide +kernel
theorem dX0_init_33 : decode cX0_init 33 = .ok (.putfield 21, 3) := by decide +kernel
theorem dX0_init_36 : decode cX0_init 36 = .ok (.aload_n 0, 1) := by decide +kernel
theorem dX0_init_37 : decode cX0_init 37 = .ok (.iconst (-1), 1) := by decide +kernel
theorem dX0_init_38 : decode cX0_init 38 = .ok (.putfield 25, 3) := by decide +kernel
theorem dX0_init_41 : decode cX0_init 41 = .ok (.return_, 1) := by decide +kernel
theorem dX0_find_0 : decode cX0_find 0 = .ok (.aload_n 0, 1) := by decide +kernel
theorem dX0_find_1 : decode cX0_find 1 = .ok (.iconst 1, 1) := by decide +kernel
theorem dX0_find_2 : decode cX0_find 2 = .ok (.putfield 21, 3) := by decide +kernel
theorem dX0_find_5 : decode cX0_find 5 = .ok (.iconst 0, 1) := by decide +kernel
theorem dX0_find_6 : decode cX0_find 6 = .ok (.istore_n 3, 1) := by decide +kernel
theorem dX0_find_7 : decode cX0_find 7 = .ok (.iload_n 3, 1) := by decide +kernel
theorem dX0_find_8 : decode cX0_find 8 = .ok (.aload_n 1, 1) := by decide +kernel
theorem dX0_find_9 : decode cX0_find 9 = .ok (.getfield 28, 3) := by decide +kernel
theorem dX0_find_12 : decode cX0_find 12 = .ok (.if_icmp .ge 52, 3) := by decide +kernel
theorem dX0_find_15 : decode cX0_find 15 = .ok (.aload_n 1, 1) := by decide +kernel
theorem dX0_find_16 : decode cX0_find 16 = .ok (.iload_n 3, 1) := by decide +kernel
theorem dX0_find_17 : decode cX0_find 17 = .ok (.invokevirtual 33, 3) := by decide +kernel
theorem dX0_find_20 : decode cX0_find 20 = .ok (.astore 4, 2) := by decide +kernel
theorem dX0_find_22 : decode cX0_find 22 = .ok (.aload 4, 2) := by decide +kernel
theorem dX0_find_24 : decode cX0_find 24 = .ok (.ifnull 34, 3) := by decide +kernel
theorem dX0_find_27 : decode cX0_find 27 = .ok (.aload 4, 2) := by decide +kernel
theorem dX0_find_29 : decode cX0_find 29 = .ok (.getfield 37, 3) := by decide +kernel
theorem dX0_find_32 : decode cX0_find 32 = .ok (.ifCond .le 26, 3) := by decide +kernel
theorem dX0_find_35 : decode cX0_find 35 = .ok (.iload_n 3, 1) := by decide +kernel
theorem dX0_find_36 : decode cX0_find 36 = .ok (.iload_n 2, 1) := by decide +kernel
theorem dX0_find_37 : decode cX0_find 37 = .ok (.if_icmp .eq 21, 3) := by decide +kernel
theorem dX0_find_40 : decode cX0_find 40 = .ok (.aload_n 0, 1) := by decide +kernel
theorem dX0_find_41 : decode cX0_find 41 = .ok (.iconst 1, 1) := by decide +kernel
theorem dX0_find_42 : decode cX0_find 42 = .ok (.iload_n 3, 1) := by decide +kernel
theorem dX0_find_43 : decode cX0_find 43 = .ok (.ishl, 1) := by decide +kernel
theorem dX0_find_44 : decode cX0_find 44 = .ok (.aload_n 1, 1) := by decide +kernel
theorem dX0_find_45 : decode cX0_find 45 = .ok (.aload 4, 2) := by decide +kernel
theorem dX0_find_47 : decode cX0_find 47 = .ok (.invokevirtual 42, 3) := by decide +kernel
theorem dX0_find_50 : decode cX0_find 50 = .ok (.aload 4, 2) := by decide +kernel
theorem dX0_find_52 : decode cX0_find 52 = .ok (.getfield 45, 3) := by decide +kernel
theorem dX0_find_55 : decode cX0_find 55 = .ok (.invokevirtual 48, 3) := by decide +kernel
theorem dX0_find_58 : decode cX0_find 58 = .ok (.iinc 3 1, 3) := by decide +kernel
theorem dX0_find_61 : decode cX0_find 61 = .ok (.goto (-54), 3) := by decide +kernel
theorem dX0_find_64 : decode cX0_find 64 = .ok (.aload_n 0, 1) := by decide +kernel
theorem dX0_find_65 : decode cX0_find 65 = .ok (.aload_n 1, 1) := by decide +kernel
theorem dX0_find_66 : decode cX0_find 66 = .ok (.invokevirtual 52, 3) := by decide +kernel
theorem dX0_find_69 : decode cX0_find 69 = .ok (.invokevirtual 56, 3) := by decide +kernel
theorem dX0_find_72 : decode cX0_find 72 = .ok (.aload_n 0, 1) := by decide +kernel
theorem dX0_find_73 : decode cX0_find 73 = .ok (.getfield 25, 3) := by decide +kernel
theorem dX0_find_76 : decode cX0_find 76 = .ok (.iconst (-1), 1) := by decide +kernel
theorem dX0_find_77 : decode cX0_find 77 = .ok (.if_icmp .eq 7, 3) := by decide +kernel
theorem dX0_find_80 : decode cX0_find 80 = .ok (.iconst 1, 1) := by decide +kernel
theorem dX0_find_81 : decode cX0_find 81 = .ok (.goto 4, 3) := by decide +kernel
theorem dX0_find_84 : decode cX0_find 84 = .ok (.iconst 0, 1) := by decide +kernel
theorem dX0_find_85 : decode cX0_find 85 = .ok (.ireturn, 1) := by decide +kernel
theorem dX0_joinToEach_0 : decode cX0_joinToEach 0 = .ok (.aload_n 0, 1) := by decide +kernel
theorem dX0_joinToEach_1 : decode cX0_joinToEach 1 = .ok (.getfield 21, 3) := by decide +kernel
theorem dX0_joinToEach_4 : decode cX0_joinToEach 4 = .ok (.iconst 2, 1) := by decide +kernel
theorem dX0_joinToEach_5 : decode cX0_joinToEach 5 = .ok (.imul, 1) := by decide +kernel
theorem dX0_joinToEach_6 : decode cX0_joinToEach 6 = .ok (.aload_n 0, 1) := by decide +kernel
theorem dX0_joinToEach_7 : decode cX0_joinToEach 7 = .ok (.getfield 9, 3) := by decide +kernel
theorem dX0_joinToEach_10 : decode cX0_joinToEach 10 = .ok (.arraylength, 1) := by decide +kernel
theorem dX0_joinToEach_11 : decode cX0_joinToEach 11 = .ok (.if_icmp .le 4, 3) := by decide +kernel
theorem dX0_joinToEach_14 : decode cX0_joinToEach 14 = .ok (.return_, 1) := by decide +kernel
theorem dX0_joinToEach_15 : decode cX0_joinToEach 15 = .ok (.iconst 0, 1) := by decide +kernel
theorem dX0_joinToEach_16 : decode cX0_joinToEach 16 = .ok (.istore 4, 2) := by decide +kernel
theorem dX0_joinToEach_18 : decode cX0_joinToEach 18 = .ok (.iload 4, 2) := by decide +kernel
theorem dX0_joinToEach_20 : decode cX0_joinToEach 20 = .ok (.aload_n 0, 1) := by decide +kernel
theorem dX0_joinToEach_21 : decode cX0_joinToEach 21 = .ok (.getfield 21, 3) := by decide +kernel
theorem dX0_joinToEach_24 : decode cX0_joinToEach 24 = .ok (.if_icmp .ge 72, 3) := by decide +kernel
theorem dX0_joinToEach_27 : decode cX0_joinToEach 27 = .ok (.aload_n 0, 1) := by decide +kernel
theorem dX0_joinToEach_28 : decode cX0_joinToEach 28 = .ok (.getfield 9, 3) := by decide +kernel
theorem dX0_joinToEach_31 : decode cX0_joinToEach 31 = .ok (.aload_n 0, 1) := by decide +kernel
theorem dX0_joinToEach_32 : decode cX0_joinToEach 32 = .ok (.getfield 21, 3) := by decide +kernel
theorem dX0_joinToEach_35 : decode cX0_joinToEach 35 = .ok (.iload 4, 2) := by decide +kernel
theorem dX0_joinToEach_37 : decode cX0_joinToEach 37 = .ok (.iadd, 1) := by decide +kernel
theorem dX0_joinToEach_38 : decode cX0_joinToEach 38 = .ok (.aload_n 0, 1) := by decide +kernel
theorem dX0_joinToEach_39 : decode cX0_joinToEach 39 = .ok (.getfield 9, 3) := by decide +kernel
theorem dX0_joinToEach_42 : decode cX0_joinToEach 42 = .ok (.iload 4, 2) := by decide +kernel
theorem dX0_joinToEach_44 : decode cX0_joinToEach 44 = .ok (.iaload, 1) := by decide +kernel
theorem dX0_joinToEach_45 : decode cX0_joinToEach 45 = .ok (.iload_n 1, 1) := by decide +kernel
theorem dX0_joinToEach_46 : decode cX0_joinToEach 46 = .ok (.ior, 1) := by decide +kernel
theorem dX0_joinToEach_47 : decode cX0_joinToEach 47 = .ok (.iastore, 1) := by decide +kernel
theorem dX0_joinToEach_48 : decode cX0_joinToEach 48 = .ok (.aload_n 0, 1) := by decide +kernel
theorem dX0_joinToEach_49 : decode cX0_joinToEach 49 = .ok (.getfield 15, 3) := by decide +kernel
theorem dX0_joinToEach_52 : decode cX0_joinToEach 52 = .ok (.aload_n 0, 1) := by decide +kernel
theorem dX0_joinToEach_53 : decode cX0_joinToEach 53 = .ok (.getfield 21, 3) := by decide +kernel
theorem dX0_joinToEach_56 : decode cX0_joinToEach 56 = .ok (.iload 4, 2) := by decide +kernel
theorem dX0_joinToEach_58 : decode cX0_joinToEach 58 = .ok (.iadd, 1) := by decide +kernel
theorem dX0_joinToEach_59 : decode cX0_joinToEach 59 = .ok (.aload_n 0, 1) := by decide +kernel
theorem dX0_joinToEach_60 : decode cX0_joinToEach 60 = .ok (.getfield 15, 3) := by decide +kernel
theorem dX0_joinToEach_63 : decode cX0_joinToEach 63 = .ok (.iload 4, 2) := by decide +kernel
theorem dX0_joinToEach_65 : decode cX0_joinToEach 65 = .ok (.iaload, 1) := by decide +kernel
theorem dX0_joinToEach_66 : decode cX0_joinToEach 66 = .ok (.iload_n 2, 1) := by decide +kernel
theorem dX0_joinToEach_67 : decode cX0_joinToEach 67 = .ok (.iadd, 1) := by decide +kernel
theorem dX0_joinToEach_68 : decode cX0_joinToEach 68 = .ok (.iastore, 1) := by decide +kernel
theorem dX0_joinToEach_69 : decode cX0_joinToEach 69 = .ok (.aload_n 0, 1) := by decide +kernel
theorem dX0_joinToEach_70 : decode cX0_joinToEach 70 = .ok (.getfield 18, 3) := by decide +kernel
theorem dX0_joinToEach_73 : decode cX0_joinToEach 73 = .ok (.aload_n 0, 1) := by decide +kernel
theorem dX0_joinToEach_74 : decode cX0_joinToEach 74 = .ok (.getfield 21, 3) := by decide +kernel
theorem dX0_joinToEach_77 : decode cX0_joinToEach 77 = .ok (.iload 4, 2) := by decide +kernel
theorem dX0_joinToEach_79 : decode cX0_joinToEach 79 = .ok (.iadd, 1) := by decide +kernel
theorem dX0_joinToEach_80 : decode cX0_joinToEach 80 = .ok (.aload_n 0, 1) := by decide +kernel
theorem dX0_joinToEach_81 : decode cX0_joinToEach 81 = .ok (.getfield 18, 3) := by decide +kernel
theorem dX0_joinToEach_84 : decode cX0_joinToEach 84 = .ok (.iload 4, 2) := by decide +kernel
theorem dX0_joinToEach_86 : decode cX0_joinToEach 86 = .ok (.iaload, 1) := by decide +kernel
theorem dX0_joinToEach_87 : decode cX0_joinToEach 87 = .ok (.iload_n 3, 1) := by decide +kernel
theorem dX0_joinToEach_88 : decode cX0_joinToEach 88 = .ok (.iadd, 1) := by decide +kernel
theorem dX0_joinToEach_89 : decode cX0_joinToEach 89 = .ok (.iastore, 1) := by decide +kernel
theorem dX0_joinToEach_90 : decode cX0_joinToEach 90 = .ok (.iinc 4 1, 3) := by decide +kernel
theorem dX0_joinToEach_93 : decode cX0_joinToEach 93 = .ok (.goto (-75), 3) := by decide +kernel
theorem dX0_joinToEach_96 : decode cX0_joinToEach 96 = .ok (.aload_n 0, 1) := by decide +kernel
theorem dX0_joinToEach_97 : decode cX0_joinToEach 97 = .ok (.dup, 1) := by decide +kernel
theorem dX0_joinToEach_98 : decode cX0_joinToEach 98 = .ok (.getfield 21, 3) := by decide +kernel
theorem dX0_joinToEach_101 : decode cX0_joinToEach 101 = .ok (.iconst 2, 1) := by decide +kernel
theorem dX0_joinToEach_102 : decode cX0_joinToEach 102 = .ok (.imul, 1) := by decide +kernel
theorem dX0_joinToEach_103 : decode cX0_joinToEach 103 = .ok (.putfield 21, 3) := by decide +kernel
theorem dX0_joinToEach_106 : decode cX0_joinToEach 106 = .ok (.return_, 1) := by decide +kernel
theorem dX0_takeLeastDear_0 : decode cX0_takeLeastDear 0 = .ok (.aload_n 0, 1) := by decide +kernel
theorem dX0_takeLeastDear_1 : decode cX0_takeLeastDear 1 = .ok (.iconst (-1), 1) := by decide +kernel
theorem dX0_takeLeastDear_2 : decode cX0_takeLeastDear 2 = .ok (.putfield 25, 3) := by decide +kernel
theorem dX0_takeLeastDear_5 : decode cX0_takeLeastDear 5 = .ok (.iconst 0, 1) := by decide +kernel
theorem dX0_takeLeastDear_6 : decode cX0_takeLeastDear 6 = .ok (.istore_n 2, 1) := by decide +kernel
theorem dX0_takeLeastDear_7 : decode cX0_takeLeastDear 7 = .ok (.iconst 0, 1) := by decide +kernel
theorem dX0_takeLeastDear_8 : decode cX0_takeLeastDear 8 = .ok (.istore_n 3, 1) := by decide +kernel
theorem dX0_takeLeastDear_9 : decode cX0_takeLeastDear 9 = .ok (.iload_n 3, 1) := by decide +kernel
theorem dX0_takeLeastDear_10 : decode cX0_takeLeastDear 10 = .ok (.aload_n 0, 1) := by decide +kernel
theorem dX0_takeLeastDear_11 : decode cX0_takeLeastDear 11 = .ok (.getfield 21, 3) := by decide +kernel
theorem dX0_takeLeastDear_14 : decode cX0_takeLeastDear 14 = .ok (.if_icmp .ge 58, 3) := by decide +kernel
theorem dX0_takeLeastDear_17 : decode cX0_takeLeastDear 17 = .ok (.iload_n 3, 1) := by decide +kernel
theorem dX0_takeLeastDear_18 : decode cX0_takeLeastDear 18 = .ok (.aload_n 0, 1) := by decide +kernel
theorem dX0_takeLeastDear_19 : decode cX0_takeLeastDear 19 = .ok (.getfield 9, 3) := by decide +kernel
theorem dX0_takeLeastDear_22 : decode cX0_takeLeastDear 22 = .ok (.arraylength, 1) := by decide +kernel
theorem dX0_takeLeastDear_23 : decode cX0_takeLeastDear 23 = .ok (.if_icmp .ge 49, 3) := by decide +kernel
theorem dX0_takeLeastDear_26 : decode cX0_takeLeastDear 26 = .ok (.aload_n 0, 1) := by decide +kernel
theorem dX0_takeLeastDear_27 : decode cX0_takeLeastDear 27 = .ok (.getfield 15, 3) := by decide +kernel
theorem dX0_takeLeastDear_30 : decode cX0_takeLeastDear 30 = .ok (.iload_n 3, 1) := by decide +kernel
theorem dX0_takeLeastDear_31 : decode cX0_takeLeastDear 31 = .ok (.iaload, 1) := by decide +kernel
theorem dX0_takeLeastDear_32 : decode cX0_takeLeastDear 32 = .ok (.iload_n 1, 1) := by decide +kernel
theorem dX0_takeLeastDear_33 : decode cX0_takeLeastDear 33 = .ok (.if_icmp .lt 33, 3) := by decide +kernel
theorem dX0_takeLeastDear_36 : decode cX0_takeLeastDear 36 = .ok (.aload_n 0, 1) := by decide +kernel
theorem dX0_takeLeastDear_37 : decode cX0_takeLeastDear 37 = .ok (.getfield 25, 3) := by decide +kernel
theorem dX0_takeLeastDear_40 : decode cX0_takeLeastDear 40 = .ok (.iconst (-1), 1) := by decide +kernel
theorem dX0_takeLeastDear_41 : decode cX0_takeLeastDear 41 = .ok (.if_icmp .eq 13, 3) := by decide +kernel
theorem dX0_takeLeastDear_44 : decode cX0_takeLeastDear 44 = .ok (.aload_n 0, 1) := by decide +kernel
theorem dX0_takeLeastDear_45 : decode cX0_takeLeastDear 45 = .ok (.getfield 18, 3) := by decide +kernel
theorem dX0_takeLeastDear_48 : decode cX0_takeLeastDear 48 = .ok (.iload_n 3, 1) := by decide +kernel
theorem dX0_takeLeastDear_49 : decode cX0_takeLeastDear 49 = .ok (.iaload, 1) := by decide +kernel
theorem dX0_takeLeastDear_50 : decode cX0_takeLeastDear 50 = .ok (.iload_n 2, 1) := by decide +kernel
theorem dX0_takeLeastDear_51 : decode cX0_takeLeastDear 51 = .ok (.if_icmp .ge 15, 3) := by decide +kernel
theorem dX0_takeLeastDear_54 : decode cX0_takeLeastDear 54 = .ok (.aload_n 0, 1) := by decide +kernel
theorem dX0_takeLeastDear_55 : decode cX0_takeLeastDear 55 = .ok (.iload_n 3, 1) := by decide +kernel
theorem dX0_takeLeastDear_56 : decode cX0_takeLeastDear 56 = .ok (.putfield 25, 3) := by decide +kernel
theorem dX0_takeLeastDear_59 : decode cX0_takeLeastDear 59 = .ok (.aload_n 0, 1) := by decide +kernel
theorem dX0_takeLeastDear_60 : decode cX0_takeLeastDear 60 = .ok (.getfield 18, 3) := by decide +kernel
theorem dX0_takeLeastDear_63 : decode cX0_takeLeastDear 63 = .ok (.iload_n 3, 1) := by decide +kernel
theorem dX0_takeLeastDear_64 : decode cX0_takeLeastDear 64 = .ok (.iaload, 1) := by decide +kernel
theorem dX0_takeLeastDear_65 : decode cX0_takeLeastDear 65 = .ok (.istore_n 2, 1) := by decide +kernel
theorem dX0_takeLeastDear_66 : decode cX0_takeLeastDear 66 = .ok (.iinc 3 1, 3) := by decide +kernel
theorem dX0_takeLeastDear_69 : decode cX0_takeLeastDear 69 = .ok (.goto (-60), 3) := by decide +kernel
theorem dX0_takeLeastDear_72 : decode cX0_takeLeastDear 72 = .ok (.return_, 1) := by decide +kernel
theorem dX0_foundSet_0 : decode cX0_foundSet 0 = .ok (.aload_n 0, 1) := by decide +kernel
theorem dX0_foundSet_1 : decode cX0_foundSet 1 = .ok (.getfield 25, 3) := by decide +kernel
theorem dX0_foundSet_4 : decode cX0_foundSet 4 = .ok (.ifCond .lt 27, 3) := by decide +kernel
theorem dX0_foundSet_7 : decode cX0_foundSet 7 = .ok (.aload_n 0, 1) := by decide +kernel
theorem dX0_foundSet_8 : decode cX0_foundSet 8 = .ok (.getfield 25, 3) := by decide +kernel
theorem dX0_foundSet_11 : decode cX0_foundSet 11 = .ok (.aload_n 0, 1) := by decide +kernel
theorem dX0_foundSet_12 : decode cX0_foundSet 12 = .ok (.getfield 9, 3) := by decide +kernel
theorem dX0_foundSet_15 : decode cX0_foundSet 15 = .ok (.arraylength, 1) := by decide +kernel
theorem dX0_foundSet_16 : decode cX0_foundSet 16 = .ok (.if_icmp .ge 15, 3) := by decide +kernel
theorem dX0_foundSet_19 : decode cX0_foundSet 19 = .ok (.aload_n 0, 1) := by decide +kernel
theorem dX0_foundSet_20 : decode cX0_foundSet 20 = .ok (.getfield 9, 3) := by decide +kernel
theorem dX0_foundSet_23 : decode cX0_foundSet 23 = .ok (.aload_n 0, 1) := by decide +kernel
theorem dX0_foundSet_24 : decode cX0_foundSet 24 = .ok (.getfield 25, 3) := by decide +kernel
theorem dX0_foundSet_27 : decode cX0_foundSet 27 = .ok (.iaload, 1) := by decide +kernel
theorem dX0_foundSet_28 : decode cX0_foundSet 28 = .ok (.goto 4, 3) := by decide +kernel
theorem dX0_foundSet_31 : decode cX0_foundSet 31 = .ok (.iconst 0, 1) := by decide +kernel
theorem dX0_foundSet_32 : decode cX0_foundSet 32 = .ok (.ireturn, 1) := by decide +kernel
theorem dX0_foundDear_0 : decode cX0_foundDear 0 = .ok (.aload_n 0, 1) := by decide +kernel
theorem dX0_foundDear_1 : decode cX0_foundDear 1 = .ok (.getfield 25, 3) := by decide +kernel
theorem dX0_foundDear_4 : decode cX0_foundDear 4 = .ok (.ifCond .lt 27, 3) := by decide +kernel
theorem dX0_foundDear_7 : decode cX0_foundDear 7 = .ok (.aload_n 0, 1) := by decide +kernel
theorem dX0_foundDear_8 : decode cX0_foundDear 8 = .ok (.getfield 25, 3) := by decide +kernel
theorem dX0_foundDear_11 : decode cX0_foundDear 11 = .ok (.aload_n 0, 1) := by decide +kernel
theorem dX0_foundDear_12 : decode cX0_foundDear 12 = .ok (.getfield 18, 3) := by decide +kernel
theorem dX0_foundDear_15 : decode cX0_foundDear 15 = .ok (.arraylength, 1) := by decide +kernel
theorem dX0_foundDear_16 : decode cX0_foundDear 16 = .ok (.if_icmp .ge 15, 3) := by decide +kernel
theorem dX0_foundDear_19 : decode cX0_foundDear 19 = .ok (.aload_n 0, 1) := by decide +kernel
theorem dX0_foundDear_20 : decode cX0_foundDear 20 = .ok (.getfield 18, 3) := by decide +kernel
theorem dX0_foundDear_23 : decode cX0_foundDear 23 = .ok (.aload_n 0, 1) := by decide +kernel
theorem dX0_foundDear_24 : decode cX0_foundDear 24 = .ok (.getfield 25, 3) := by decide +kernel
theorem dX0_foundDear_27 : decode cX0_foundDear 27 = .ok (.iaload, 1) := by decide +kernel
theorem dX0_foundDear_28 : decode cX0_foundDear 28 = .ok (.goto 4, 3) := by decide +kernel
theorem dX0_foundDear_31 : decode cX0_foundDear 31 = .ok (.iconst 0, 1) := by decide +kernel
theorem dX0_foundDear_32 : decode cX0_foundDear 32 = .ok (.ireturn, 1) := by decide +kernel
theorem dX0_foundGives_0 : decode cX0_foundGives 0 = .ok (.aload_n 0, 1) := by decide +kernel
theorem dX0_foundGives_1 : decode cX0_foundGives 1 = .ok (.getfield 25, 3) := by decide +kernel
theorem dX0_foundGives_4 : decode cX0_foundGives 4 = .ok (.ifCond .lt 27, 3) := by decide +kernel
theorem dX0_foundGives_7 : decode cX0_foundGives 7 = .ok (.aload_n 0, 1) := by decide +kernel
theorem dX0_foundGives_8 : decode cX0_foundGives 8 = .ok (.getfield 25, 3) := by decide +kernel
theorem dX0_foundGives_11 : decode cX0_foundGives 11 = .ok (.aload_n 0, 1) := by decide +kernel
theorem dX0_foundGives_12 : decode cX0_foundGives 12 = .ok (.getfield 15, 3) := by decide +kernel
theorem dX0_foundGives_15 : decode cX0_foundGives 15 = .ok (.arraylength, 1) := by decide +kernel
theorem dX0_foundGives_16 : decode cX0_foundGives 16 = .ok (.if_icmp .ge 15, 3) := by decide +kernel
theorem dX0_foundGives_19 : decode cX0_foundGives 19 = .ok (.aload_n 0, 1) := by decide +kernel
theorem dX0_foundGives_20 : decode cX0_foundGives 20 = .ok (.getfield 15, 3) := by decide +kernel
theorem dX0_foundGives_23 : decode cX0_foundGives 23 = .ok (.aload_n 0, 1) := by decide +kernel
theorem dX0_foundGives_24 : decode cX0_foundGives 24 = .ok (.getfield 25, 3) := by decide +kernel
theorem dX0_foundGives_27 : decode cX0_foundGives 27 = .ok (.iaload, 1) := by decide +kernel
theorem dX0_foundGives_28 : decode cX0_foundGives 28 = .ok (.goto 4, 3) := by decide +kernel
theorem dX0_foundGives_31 : decode cX0_foundGives 31 = .ok (.iconst 0, 1) := by decide +kernel
theorem dX0_foundGives_32 : decode cX0_foundGives 32 = .ok (.ireturn, 1) := by decide +kernel
theorem dX1_init_0 : decode cX1_init 0 = .ok (.aload_n 0, 1) := by decide +kernel
theorem dX1_init_1 : decode cX1_init 1 = .ok (.invokespecial 3, 3) := by decide +kernel
theorem dX1_init_4 : decode cX1_init 4 = .ok (.return_, 1) := by decide +kernel
theorem dX1_copyFrom_0 : decode cX1_copyFrom 0 = .ok (.aload_n 0, 1) := by decide +kernel
theorem dX1_copyFrom_1 : decode cX1_copyFrom 1 = .ok (.aload_n 1, 1) := by decide +kernel
theorem dX1_copyFrom_2 : decode cX1_copyFrom 2 = .ok (.getfield 9, 3) := by decide +kernel
theorem dX1_copyFrom_5 : decode cX1_copyFrom 5 = .ok (.putfield 9, 3) := by decide +kernel
theorem dX1_copyFrom_8 : decode cX1_copyFrom 8 = .ok (.aload_n 0, 1) := by decide +kernel
theorem dX1_copyFrom_9 : decode cX1_copyFrom 9 = .ok (.aload_n 1, 1) := by decide +kernel
theorem dX1_copyFrom_10 : decode cX1_copyFrom 10 = .ok (.getfield 15, 3) := by decide +kernel
theorem dX1_copyFrom_13 : decode cX1_copyFrom 13 = .ok (.putfield 15, 3) := by decide +kernel
theorem dX1_copyFrom_16 : decode cX1_copyFrom 16 = .ok (.aload_n 0, 1) := by decide +kernel
theorem dX1_copyFrom_17 : decode cX1_copyFrom 17 = .ok (.aload_n 1, 1) := by decide +kernel
theorem dX1_copyFrom_18 : decode cX1_copyFrom 18 = .ok (.getfield 18, 3) := by decide +kernel
theorem dX1_copyFrom_21 : decode cX1_copyFrom 21 = .ok (.putfield 18, 3) := by decide +kernel
theorem dX1_copyFrom_24 : decode cX1_copyFrom 24 = .ok (.aload_n 0, 1) := by decide +kernel
theorem dX1_copyFrom_25 : decode cX1_copyFrom 25 = .ok (.aload_n 1, 1) := by decide +kernel
theorem dX1_copyFrom_26 : decode cX1_copyFrom 26 = .ok (.getfield 21, 3) := by decide +kernel
theorem dX1_copyFrom_29 : decode cX1_copyFrom 29 = .ok (.putfield 21, 3) := by decide +kernel
theorem dX1_copyFrom_32 : decode cX1_copyFrom 32 = .ok (.aload_n 0, 1) := by decide +kernel
theorem dX1_copyFrom_33 : decode cX1_copyFrom 33 = .ok (.aload_n 1, 1) := by decide +kernel
theorem dX1_copyFrom_34 : decode cX1_copyFrom 34 = .ok (.getfield 24, 3) := by decide +kernel
theorem dX1_copyFrom_37 : decode cX1_copyFrom 37 = .ok (.putfield 24, 3) := by decide +kernel
theorem dX1_copyFrom_40 : decode cX1_copyFrom 40 = .ok (.return_, 1) := by decide +kernel
theorem dX1_isOf_0 : decode cX1_isOf 0 = .ok (.aload_n 0, 1) := by decide +kernel
theorem dX1_isOf_1 : decode cX1_isOf 1 = .ok (.getfield 9, 3) := by decide +kernel
theorem dX1_isOf_4 : decode cX1_isOf 4 = .ok (.istore_n 2, 1) := by decide +kernel
theorem dX1_isOf_5 : decode cX1_isOf 5 = .ok (.iconst 0, 1) := by decide +kernel
theorem dX1_isOf_6 : decode cX1_isOf 6 = .ok (.istore_n 3, 1) := by decide +kernel
theorem dX1_isOf_7 : decode cX1_isOf 7 = .ok (.iload_n 3, 1) := by decide +kernel
theorem dX1_isOf_8 : decode cX1_isOf 8 = .ok (.getstatic 27, 3) := by decide +kernel
theorem dX1_isOf_11 : decode cX1_isOf 11 = .ok (.arraylength, 1) := by decide +kernel
theorem dX1_isOf_12 : decode cX1_isOf 12 = .ok (.if_icmp .ge 38, 3) := by decide +kernel
theorem dX1_isOf_15 : decode cX1_isOf 15 = .ok (.iload_n 2, 1) := by decide +kernel
theorem dX1_isOf_16 : decode cX1_isOf 16 = .ok (.iload_n 1, 1) := by decide +kernel
theorem dX1_isOf_17 : decode cX1_isOf 17 = .ok (.if_icmp .ne 5, 3) := by decide +kernel
theorem dX1_isOf_20 : decode cX1_isOf 20 = .ok (.iconst 1, 1) := by decide +kernel
theorem dX1_isOf_21 : decode cX1_isOf 21 = .ok (.ireturn, 1) := by decide +kernel
theorem dX1_isOf_22 : decode cX1_isOf 22 = .ok (.iload_n 2, 1) := by decide +kernel
theorem dX1_isOf_23 : decode cX1_isOf 23 = .ok (.ifCond .lt 19, 3) := by decide +kernel
theorem dX1_isOf_26 : decode cX1_isOf 26 = .ok (.iload_n 2, 1) := by decide +kernel
theorem dX1_isOf_27 : decode cX1_isOf 27 = .ok (.getstatic 27, 3) := by decide +kernel
theorem dX1_isOf_30 : decode cX1_isOf 30 = .ok (.arraylength, 1) := by decide +kernel
theorem dX1_isOf_31 : decode cX1_isOf 31 = .ok (.if_icmp .ge 11, 3) := by decide +kernel
theorem dX1_isOf_34 : decode cX1_isOf 34 = .ok (.getstatic 27, 3) := by decide +kernel
theorem dX1_isOf_37 : decode cX1_isOf 37 = .ok (.iload_n 2, 1) := by decide +kernel
theorem dX1_isOf_38 : decode cX1_isOf 38 = .ok (.iaload, 1) := by decide +kernel
theorem dX1_isOf_39 : decode cX1_isOf 39 = .ok (.goto 4, 3) := by decide +kernel
theorem dX1_isOf_42 : decode cX1_isOf 42 = .ok (.iconst (-1), 1) := by decide +kernel
theorem dX1_isOf_43 : decode cX1_isOf 43 = .ok (.istore_n 2, 1) := by decide +kernel
theorem dX1_isOf_44 : decode cX1_isOf 44 = .ok (.iinc 3 1, 3) := by decide +kernel
theorem dX1_isOf_47 : decode cX1_isOf 47 = .ok (.goto (-40), 3) := by decide +kernel
theorem dX1_isOf_50 : decode cX1_isOf 50 = .ok (.iconst 0, 1) := by decide +kernel
theorem dX1_isOf_51 : decode cX1_isOf 51 = .ok (.ireturn, 1) := by decide +kernel
theorem dX1_burns_0 : decode cX1_burns 0 = .ok (.bipush 10, 2) := by decide +kernel
theorem dX1_burns_2 : decode cX1_burns 2 = .ok (.aload_n 0, 1) := by decide +kernel
theorem dX1_burns_3 : decode cX1_burns 3 = .ok (.getfield 15, 3) := by decide +kernel
theorem dX1_burns_6 : decode cX1_burns 6 = .ok (.iadd, 1) := by decide +kernel
theorem dX1_burns_7 : decode cX1_burns 7 = .ok (.istore_n 2, 1) := by decide +kernel
theorem dX1_burns_8 : decode cX1_burns 8 = .ok (.aload_n 0, 1) := by decide +kernel
theorem dX1_burns_9 : decode cX1_burns 9 = .ok (.getfield 9, 3) := by decide +kernel
theorem dX1_burns_12 : decode cX1_burns 12 = .ok (.tableswitch 87 1 6 #[40, 44, 48, 52, 69, 77], 40) := by decide +kernel
theorem dX1_burns_52 : decode cX1_burns 52 = .ok (.iload_n 2, 1) := by decide +kernel
theorem dX1_burns_53 : decode cX1_burns 53 = .ok (.iconst 5, 1) := by decide +kernel
theorem dX1_burns_54 : decode cX1_burns 54 = .ok (.iadd, 1) := by decide +kernel
theorem dX1_burns_55 : decode cX1_burns 55 = .ok (.ireturn, 1) := by decide +kernel
theorem dX1_burns_56 : decode cX1_burns 56 = .ok (.iconst 2, 1) := by decide +kernel
theorem dX1_burns_57 : decode cX1_burns 57 = .ok (.iload_n 2, 1) := by decide +kernel
theorem dX1_burns_58 : decode cX1_burns 58 = .ok (.imul, 1) := by decide +kernel
theorem dX1_burns_59 : decode cX1_burns 59 = .ok (.ireturn, 1) := by decide +kernel
theorem dX1_burns_60 : decode cX1_burns 60 = .ok (.iload_n 2, 1) := by decide +kernel
theorem dX1_burns_61 : decode cX1_burns 61 = .ok (.iconst 2, 1) := by decide +kernel
theorem dX1_burns_62 : decode cX1_burns 62 = .ok (.idiv, 1) := by decide +kernel
theorem dX1_burns_63 : decode cX1_burns 63 = .ok (.ireturn, 1) := by decide +kernel
theorem dX1_burns_64 : decode cX1_burns 64 = .ok (.iload_n 2, 1) := by decide +kernel
theorem dX1_burns_65 : decode cX1_burns 65 = .ok (.iconst 5, 1) := by decide +kernel
theorem dX1_burns_66 : decode cX1_burns 66 = .ok (.iadd, 1) := by decide +kernel
theorem dX1_burns_67 : decode cX1_burns 67 = .ok (.bipush 10, 2) := by decide +kernel
theorem dX1_burns_69 : decode cX1_burns 69 = .ok (.aload_n 0, 1) := by decide +kernel
theorem dX1_burns_70 : decode cX1_burns 70 = .ok (.getfield 18, 3) := by decide +kernel
theorem dX1_burns_73 : decode cX1_burns 73 = .ok (.invokestatic 31, 3) := by decide +kernel
theorem dX1_burns_76 : decode cX1_burns 76 = .ok (.iconst 1, 1) := by decide +kernel
theorem dX1_burns_77 : decode cX1_burns 77 = .ok (.isub, 1) := by decide +kernel
theorem dX1_burns_78 : decode cX1_burns 78 = .ok (.imul, 1) := by decide +kernel
theorem dX1_burns_79 : decode cX1_burns 79 = .ok (.iadd, 1) := by decide +kernel
theorem dX1_burns_80 : decode cX1_burns 80 = .ok (.ireturn, 1) := by decide +kernel
theorem dX1_burns_81 : decode cX1_burns 81 = .ok (.iconst 2, 1) := by decide +kernel
theorem dX1_burns_82 : decode cX1_burns 82 = .ok (.iload_n 2, 1) := by decide +kernel
theorem dX1_burns_83 : decode cX1_burns 83 = .ok (.imul, 1) := by decide +kernel
theorem dX1_burns_84 : decode cX1_burns 84 = .ok (.iload_n 1, 1) := by decide +kernel
theorem dX1_burns_85 : decode cX1_burns 85 = .ok (.iconst 5, 1) := by decide +kernel
theorem dX1_burns_86 : decode cX1_burns 86 = .ok (.irem, 1) := by decide +kernel
theorem dX1_burns_87 : decode cX1_burns 87 = .ok (.iadd, 1) := by decide +kernel
theorem dX1_burns_88 : decode cX1_burns 88 = .ok (.ireturn, 1) := by decide +kernel
theorem dX1_burns_89 : decode cX1_burns 89 = .ok (.iconst 4, 1) := by decide +kernel
theorem dX1_burns_90 : decode cX1_burns 90 = .ok (.aload_n 0, 1) := by decide +kernel
theorem dX1_burns_91 : decode cX1_burns 91 = .ok (.getfield 21, 3) := by decide +kernel
theorem dX1_burns_94 : decode cX1_burns 94 = .ok (.bipush 10, 2) := by decide +kernel
theorem dX1_burns_96 : decode cX1_burns 96 = .ok (.idiv, 1) := by decide +kernel
theorem dX1_burns_97 : decode cX1_burns 97 = .ok (.iadd, 1) := by decide +kernel
theorem dX1_burns_98 : decode cX1_burns 98 = .ok (.ireturn, 1) := by decide +kernel
theorem dX1_burns_99 : decode cX1_burns 99 = .ok (.iload_n 2, 1) := by decide +kernel
theorem dX1_burns_100 : decode cX1_burns 100 = .ok (.ireturn, 1) := by decide +kernel
theorem dX1_smoke_0 : decode cX1_smoke 0 = .ok (.aload_n 0, 1) := by decide +kernel
theorem dX1_smoke_1 : decode cX1_smoke 1 = .ok (.getfield 18, 3) := by decide +kernel
theorem dX1_smoke_4 : decode cX1_smoke 4 = .ok (.invokestatic 31, 3) := by decide +kernel
theorem dX1_smoke_7 : decode cX1_smoke 7 = .ok (.istore_n 2, 1) := by decide +kernel
theorem dX1_smoke_8 : decode cX1_smoke 8 = .ok (.iload_n 1, 1) := by decide +kernel
theorem dX1_smoke_9 : decode cX1_smoke 9 = .ok (.iconst 3, 1) := by decide +kernel
theorem dX1_smoke_10 : decode cX1_smoke 10 = .ok (.idiv, 1) := by decide +kernel
theorem dX1_smoke_11 : decode cX1_smoke 11 = .ok (.istore_n 3, 1) := by decide +kernel
theorem dX1_smoke_12 : decode cX1_smoke 12 = .ok (.iload_n 2, 1) := by decide +kernel
theorem dX1_smoke_13 : decode cX1_smoke 13 = .ok (.iconst 3, 1) := by decide +kernel
theorem dX1_smoke_14 : decode cX1_smoke 14 = .ok (.if_icmp .lt 9, 3) := by decide +kernel
theorem dX1_smoke_17 : decode cX1_smoke 17 = .ok (.iload_n 3, 1) := by decide +kernel
theorem dX1_smoke_18 : decode cX1_smoke 18 = .ok (.iconst 3, 1) := by decide +kernel
theorem dX1_smoke_19 : decode cX1_smoke 19 = .ok (.iadd, 1) := by decide +kernel
theorem dX1_smoke_20 : decode cX1_smoke 20 = .ok (.goto 4, 3) := by decide +kernel
theorem dX1_smoke_23 : decode cX1_smoke 23 = .ok (.iload_n 3, 1) := by decide +kernel
theorem dX1_smoke_24 : decode cX1_smoke 24 = .ok (.istore 4, 2) := by decide +kernel
theorem dX1_smoke_26 : decode cX1_smoke 26 = .ok (.aload_n 0, 1) := by decide +kernel
theorem dX1_smoke_27 : decode cX1_smoke 27 = .ok (.getfield 9, 3) := by decide +kernel
theorem dX1_smoke_30 : decode cX1_smoke 30 = .ok (.tableswitch 61 1 6 #[38, 41, 43, 52, 57, 59], 38) := by decide +kernel
theorem dX1_smoke_68 : decode cX1_smoke 68 = .ok (.iload 4, 2) := by decide +kernel
theorem dX1_smoke_70 : decode cX1_smoke 70 = .ok (.ireturn, 1) := by decide +kernel
theorem dX1_smoke_71 : decode cX1_smoke 71 = .ok (.iconst 0, 1) := by decide +kernel
theorem dX1_smoke_72 : decode cX1_smoke 72 = .ok (.ireturn, 1) := by decide +kernel
theorem dX1_smoke_73 : decode cX1_smoke 73 = .ok (.iload_n 3, 1) := by decide +kernel
theorem dX1_smoke_74 : decode cX1_smoke 74 = .ok (.aload_n 0, 1) := by decide +kernel
theorem dX1_smoke_75 : decode cX1_smoke 75 = .ok (.getfield 15, 3) := by decide +kernel
theorem dX1_smoke_78 : decode cX1_smoke 78 = .ok (.iadd, 1) := by decide +kernel
theorem dX1_smoke_79 : decode cX1_smoke 79 = .ok (.iconst 2, 1) := by decide +kernel
theorem dX1_smoke_80 : decode cX1_smoke 80 = .ok (.iadd, 1) := by decide +kernel
theorem dX1_smoke_81 : decode cX1_smoke 81 = .ok (.ireturn, 1) := by decide +kernel
theorem dX1_smoke_82 : decode cX1_smoke 82 = .ok (.iload 4, 2) := by decide +kernel
theorem dX1_smoke_84 : decode cX1_smoke 84 = .ok (.iload_n 2, 1) := by decide +kernel
theorem dX1_smoke_85 : decode cX1_smoke 85 = .ok (.iadd, 1) := by decide +kernel
theorem dX1_smoke_86 : decode cX1_smoke 86 = .ok (.ireturn, 1) := by decide +kernel
theorem dX1_smoke_87 : decode cX1_smoke 87 = .ok (.iload_n 1, 1) := by decide +kernel
theorem dX1_smoke_88 : decode cX1_smoke 88 = .ok (.ireturn, 1) := by decide +kernel
theorem dX1_smoke_89 : decode cX1_smoke 89 = .ok (.iconst 0, 1) := by decide +kernel
theorem dX1_smoke_90 : decode cX1_smoke 90 = .ok (.ireturn, 1) := by decide +kernel
theorem dX1_smoke_91 : decode cX1_smoke 91 = .ok (.iload_n 3, 1) := by decide +kernel
theorem dX1_smoke_92 : decode cX1_smoke 92 = .ok (.ireturn, 1) := by decide +kernel
theorem dX2_init_0 : decode cX2_init 0 = .ok (.aload_n 0, 1) := by decide +kernel
theorem dX2_init_1 : decode cX2_init 1 = .ok (.invokespecial 3, 3) := by decide +kernel
theorem dX2_init_4 : decode cX2_init 4 = .ok (.aload_n 0, 1) := by decide +kernel
theorem dX2_init_5 : decode cX2_init 5 = .ok (.new 9, 3) := by decide +kernel
theorem dX2_init_8 : decode cX2_init 8 = .ok (.dup, 1) := by decide +kernel
theorem dX2_init_9 : decode cX2_init 9 = .ok (.iconst 0, 1) := by decide +kernel
theorem dX2_init_10 : decode cX2_init 10 = .ok (.invokespecial 11, 3) := by decide +kernel
theorem dX2_init_13 : decode cX2_init 13 = .ok (.putfield 14, 3) := by decide +kernel
theorem dX2_init_16 : decode cX2_init 16 = .ok (.aload_n 0, 1) := by decide +kernel
theorem dX2_init_17 : decode cX2_init 17 = .ok (.new 20, 3) := by decide +kernel
theorem dX2_init_20 : decode cX2_init 20 = .ok (.dup, 1) := by decide +kernel
theorem dX2_init_21 : decode cX2_init 21 = .ok (.bipush 60, 2) := by decide +kernel
theorem dX2_init_23 : decode cX2_init 23 = .ok (.invokespecial 22, 3) := by decide +kernel
theorem dX2_init_26 : decode cX2_init 26 = .ok (.putfield 23, 3) := by decide +kernel
theorem dX2_init_29 : decode cX2_init 29 = .ok (.aload_n 0, 1) := by decide +kernel
theorem dX2_init_30 : decode cX2_init 30 = .ok (.iconst 0, 1) := by decide +kernel
theorem dX2_init_31 : decode cX2_init 31 = .ok (.putfield 27, 3) := by decide +kernel
theorem dX2_init_34 : decode cX2_init 34 = .ok (.aload_n 0, 1) := by decide +kernel
theorem dX2_init_35 : decode cX2_init 35 = .ok (.iconst 0, 1) := by decide +kernel
theorem dX2_init_36 : decode cX2_init 36 = .ok (.putfield 31, 3) := by decide +kernel
theorem dX2_init_39 : decode cX2_init 39 = .ok (.return_, 1) := by decide +kernel
theorem dX2_read_0 : decode cX2_read 0 = .ok (.aload_n 0, 1) := by decide +kernel
theorem dX2_read_1 : decode cX2_read 1 = .ok (.getfield 14, 3) := by decide +kernel
theorem dX2_read_4 : decode cX2_read 4 = .ok (.invokevirtual 34, 3) := by decide +kernel
theorem dX2_read_7 : decode cX2_read 7 = .ok (.aload_n 0, 1) := by decide +kernel
theorem dX2_read_8 : decode cX2_read 8 = .ok (.getfield 23, 3) := by decide +kernel
theorem dX2_read_11 : decode cX2_read 11 = .ok (.aload_n 1, 1) := by decide +kernel
theorem dX2_read_12 : decode cX2_read 12 = .ok (.invokevirtual 37, 3) := by decide +kernel
theorem dX2_read_15 : decode cX2_read 15 = .ok (.aload_n 0, 1) := by decide +kernel
theorem dX2_read_16 : decode cX2_read 16 = .ok (.iload_n 2, 1) := by decide +kernel
theorem dX2_read_17 : decode cX2_read 17 = .ok (.putfield 27, 3) := by decide +kernel
theorem dX2_read_20 : decode cX2_read 20 = .ok (.aload_n 0, 1) := by decide +kernel
theorem dX2_read_21 : decode cX2_read 21 = .ok (.iconst 0, 1) := by decide +kernel
theorem dX2_read_22 : decode cX2_read 22 = .ok (.putfield 31, 3) := by decide +kernel
theorem dX2_read_25 : decode cX2_read 25 = .ok (.aload_n 0, 1) := by decide +kernel
theorem dX2_read_26 : decode cX2_read 26 = .ok (.iconst 0, 1) := by decide +kernel
theorem dX2_read_27 : decode cX2_read 27 = .ok (.iconst 0, 1) := by decide +kernel
theorem dX2_read_28 : decode cX2_read 28 = .ok (.invokevirtual 41, 3) := by decide +kernel
theorem dX2_read_31 : decode cX2_read 31 = .ok (.ifCond .eq 21, 3) := by decide +kernel
theorem dX2_read_34 : decode cX2_read 34 = .ok (.aload_n 0, 1) := by decide +kernel
theorem dX2_read_35 : decode cX2_read 35 = .ok (.getfield 31, 3) := by decide +kernel
theorem dX2_read_38 : decode cX2_read 38 = .ok (.aload_n 0, 1) := by decide +kernel
theorem dX2_read_39 : decode cX2_read 39 = .ok (.getfield 23, 3) := by decide +kernel
theorem dX2_read_42 : decode cX2_read 42 = .ok (.invokevirtual 45, 3) := by decide +kernel
theorem dX2_read_45 : decode cX2_read 45 = .ok (.if_icmp .ne 7, 3) := by decide +kernel
theorem dX2_read_48 : decode cX2_read 48 = .ok (.iconst 1, 1) := by decide +kernel
theorem dX2_read_49 : decode cX2_read 49 = .ok (.goto 4, 3) := by decide +kernel
theorem dX2_read_52 : decode cX2_read 52 = .ok (.iconst 0, 1) := by decide +kernel
theorem dX2_read_53 : decode cX2_read 53 = .ok (.istore_n 3, 1) := by decide +kernel
theorem dX2_read_54 : decode cX2_read 54 = .ok (.iload_n 3, 1) := by decide +kernel
theorem dX2_read_55 : decode cX2_read 55 = .ok (.ifCond .eq 7, 3) := by decide +kernel
theorem dX2_read_58 : decode cX2_read 58 = .ok (.iconst (-1), 1) := by decide +kernel
theorem dX2_read_59 : decode cX2_read 59 = .ok (.goto 7, 3) := by decide +kernel
theorem dX2_read_62 : decode cX2_read 62 = .ok (.aload_n 0, 1) := by decide +kernel
theorem dX2_read_63 : decode cX2_read 63 = .ok (.getfield 31, 3) := by decide +kernel
theorem dX2_read_66 : decode cX2_read 66 = .ok (.ireturn, 1) := by decide +kernel
theorem dX2_readChain_0 : decode cX2_readChain 0 = .ok (.iload_n 1, 1) := by decide +kernel
theorem dX2_readChain_1 : decode cX2_readChain 1 = .ok (.iconst 4, 1) := by decide +kernel
theorem dX2_readChain_2 : decode cX2_readChain 2 = .ok (.if_icmp .le 9, 3) := by decide +kernel
theorem dX2_readChain_5 : decode cX2_readChain 5 = .ok (.aload_n 0, 1) := by decide +kernel
theorem dX2_readChain_6 : decode cX2_readChain 6 = .ok (.iload_n 2, 1) := by decide +kernel
theorem dX2_readChain_7 : decode cX2_readChain 7 = .ok (.invokevirtual 49, 3) := by decide +kernel
theorem dX2_readChain_10 : decode cX2_readChain 10 = .ok (.ireturn, 1) := by decide +kernel
theorem dX2_readChain_11 : decode cX2_readChain 11 = .ok (.aload_n 0, 1) := by decide +kernel
theorem dX2_readChain_12 : decode cX2_readChain 12 = .ok (.iload_n 1, 1) := by decide +kernel
theorem dX2_readChain_13 : decode cX2_readChain 13 = .ok (.iconst 1, 1) := by decide +kernel
theorem dX2_readChain_14 : decode cX2_readChain 14 = .ok (.iadd, 1) := by decide +kernel
theorem dX2_readChain_15 : decode cX2_readChain 15 = .ok (.iload_n 2, 1) := by decide +kernel
theorem dX2_readChain_16 : decode cX2_readChain 16 = .ok (.invokevirtual 41, 3) := by decide +kernel
theorem dX2_readChain_19 : decode cX2_readChain 19 = .ok (.ifCond .ne 5, 3) := by decide +kernel
theorem dX2_readChain_22 : decode cX2_readChain 22 = .ok (.iconst 0, 1) := by decide +kernel
theorem dX2_readChain_23 : decode cX2_readChain 23 = .ok (.ireturn, 1) := by decide +kernel
theorem dX2_readChain_24 : decode cX2_readChain 24 = .ok (.iload_n 1, 1) := by decide +kernel
theorem dX2_readChain_25 : decode cX2_readChain 25 = .ok (.iconst 2, 1) := by decide +kernel
theorem dX2_readChain_26 : decode cX2_readChain 26 = .ok (.if_icmp .ne 7, 3) := by decide +kernel
theorem dX2_readChain_29 : decode cX2_readChain 29 = .ok (.iconst 1, 1) := by decide +kernel
theorem dX2_readChain_30 : decode cX2_readChain 30 = .ok (.goto 5, 3) := by decide +kernel
theorem dX2_readChain_33 : decode cX2_readChain 33 = .ok (.bipush 60, 2) := by decide +kernel
theorem dX2_readChain_35 : decode cX2_readChain 35 = .ok (.istore_n 3, 1) := by decide +kernel
theorem dX2_readChain_36 : decode cX2_readChain 36 = .ok (.iconst 0, 1) := by decide +kernel
theorem dX2_readChain_37 : decode cX2_readChain 37 = .ok (.istore 4, 2) := by decide +kernel
theorem dX2_readChain_39 : decode cX2_readChain 39 = .ok (.iload 4, 2) := by decide +kernel
theorem dX2_readChain_41 : decode cX2_readChain 41 = .ok (.iload_n 3, 1) := by decide +kernel
theorem dX2_readChain_42 : decode cX2_readChain 42 = .ok (.if_icmp .ge 63, 3) := by decide +kernel
theorem dX2_readChain_45 : decode cX2_readChain 45 = .ok (.aload_n 0, 1) := by decide +kernel
theorem dX2_readChain_46 : decode cX2_readChain 46 = .ok (.invokevirtual 53, 3) := by decide +kernel
theorem dX2_readChain_49 : decode cX2_readChain 49 = .ok (.invokestatic 56, 3) := by decide +kernel
theorem dX2_readChain_52 : decode cX2_readChain 52 = .ok (.iload_n 1, 1) := by decide +kernel
theorem dX2_readChain_53 : decode cX2_readChain 53 = .ok (.if_icmp .ne 52, 3) := by decide +kernel
theorem dX2_readChain_56 : decode cX2_readChain 56 = .ok (.aload_n 0, 1) := by decide +kernel
theorem dX2_readChain_57 : decode cX2_readChain 57 = .ok (.invokevirtual 53, 3) := by decide +kernel
theorem dX2_readChain_60 : decode cX2_readChain 60 = .ok (.istore 5, 2) := by decide +kernel
theorem dX2_readChain_62 : decode cX2_readChain 62 = .ok (.aload_n 0, 1) := by decide +kernel
theorem dX2_readChain_63 : decode cX2_readChain 63 = .ok (.dup, 1) := by decide +kernel
theorem dX2_readChain_64 : decode cX2_readChain 64 = .ok (.getfield 31, 3) := by decide +kernel
theorem dX2_readChain_67 : decode cX2_readChain 67 = .ok (.iconst 1, 1) := by decide +kernel
theorem dX2_readChain_68 : decode cX2_readChain 68 = .ok (.iadd, 1) := by decide +kernel
theorem dX2_readChain_69 : decode cX2_readChain 69 = .ok (.putfield 31, 3) := by decide +kernel
theorem dX2_readChain_72 : decode cX2_readChain 72 = .ok (.aload_n 0, 1) := by decide +kernel
theorem dX2_readChain_73 : decode cX2_readChain 73 = .ok (.iload_n 1, 1) := by decide +kernel
theorem dX2_readChain_74 : decode cX2_readChain 74 = .ok (.iconst 1, 1) := by decide +kernel
theorem dX2_readChain_75 : decode cX2_readChain 75 = .ok (.iadd, 1) := by decide +kernel
theorem dX2_readChain_76 : decode cX2_readChain 76 = .ok (.iload_n 2, 1) := by decide +kernel
theorem dX2_readChain_77 : decode cX2_readChain 77 = .ok (.invokevirtual 41, 3) := by decide +kernel
theorem dX2_readChain_80 : decode cX2_readChain 80 = .ok (.ifCond .ne 5, 3) := by decide +kernel
theorem dX2_readChain_83 : decode cX2_readChain 83 = .ok (.iconst 0, 1) := by decide +kernel
theorem dX2_readChain_84 : decode cX2_readChain 84 = .ok (.ireturn, 1) := by decide +kernel
theorem dX2_readChain_85 : decode cX2_readChain 85 = .ok (.aload_n 0, 1) := by decide +kernel
theorem dX2_readChain_86 : decode cX2_readChain 86 = .ok (.getfield 14, 3) := by decide +kernel
theorem dX2_readChain_89 : decode cX2_readChain 89 = .ok (.getfield 60, 3) := by decide +kernel
theorem dX2_readChain_92 : decode cX2_readChain 92 = .ok (.iload 5, 2) := by decide +kernel
theorem dX2_readChain_94 : decode cX2_readChain 94 = .ok (.ineg, 1) := by decide +kernel
theorem dX2_readChain_95 : decode cX2_readChain 95 = .ok (.invokevirtual 63, 3) := by decide +kernel
theorem dX2_readChain_98 : decode cX2_readChain 98 = .ok (.pop, 1) := by decide +kernel
theorem dX2_readChain_99 : decode cX2_readChain 99 = .ok (.iinc 4 1, 3) := by decide +kernel
theorem dX2_readChain_102 : decode cX2_readChain 102 = .ok (.goto (-63), 3) := by decide +kernel
theorem dX2_readChain_105 : decode cX2_readChain 105 = .ok (.iconst 1, 1) := by decide +kernel
theorem dX2_readChain_106 : decode cX2_readChain 106 = .ok (.ireturn, 1) := by decide +kernel
theorem dX2_readUnit_0 : decode cX2_readUnit 0 = .ok (.aload_n 0, 1) := by decide +kernel
theorem dX2_readUnit_1 : decode cX2_readUnit 1 = .ok (.invokevirtual 53, 3) := by decide +kernel
theorem dX2_readUnit_4 : decode cX2_readUnit 4 = .ok (.istore_n 2, 1) := by decide +kernel
theorem dX2_readUnit_5 : decode cX2_readUnit 5 = .ok (.iload_n 2, 1) := by decide +kernel
theorem dX2_readUnit_6 : decode cX2_readUnit 6 = .ok (.invokestatic 66, 3) := by decide +kernel
theorem dX2_readUnit_9 : decode cX2_readUnit 9 = .ok (.ifCond .eq 9, 3) := by decide +kernel
theorem dX2_readUnit_12 : decode cX2_readUnit 12 = .ok (.aload_n 0, 1) := by decide +kernel
theorem dX2_readUnit_13 : decode cX2_readUnit 13 = .ok (.invokevirtual 69, 3) := by decide +kernel
theorem dX2_readUnit_16 : decode cX2_readUnit 16 = .ok (.iconst 1, 1) := by decide +kernel
theorem dX2_readUnit_17 : decode cX2_readUnit 17 = .ok (.ireturn, 1) := by decide +kernel
theorem dX2_readUnit_18 : decode cX2_readUnit 18 = .ok (.aload_n 0, 1) := by decide +kernel
theorem dX2_readUnit_19 : decode cX2_readUnit 19 = .ok (.iload_n 2, 1) := by decide +kernel
theorem dX2_readUnit_20 : decode cX2_readUnit 20 = .ok (.invokevirtual 72, 3) := by decide +kernel
theorem dX2_readUnit_23 : decode cX2_readUnit 23 = .ok (.istore_n 3, 1) := by decide +kernel
theorem dX2_readUnit_24 : decode cX2_readUnit 24 = .ok (.iload_n 3, 1) := by decide +kernel
theorem dX2_readUnit_25 : decode cX2_readUnit 25 = .ok (.ifCond .eq 28, 3) := by decide +kernel
theorem dX2_readUnit_28 : decode cX2_readUnit 28 = .ok (.aload_n 0, 1) := by decide +kernel
theorem dX2_readUnit_29 : decode cX2_readUnit 29 = .ok (.dup, 1) := by decide +kernel
theorem dX2_readUnit_30 : decode cX2_readUnit 30 = .ok (.getfield 31, 3) := by decide +kernel
theorem dX2_readUnit_33 : decode cX2_readUnit 33 = .ok (.iconst 1, 1) := by decide +kernel
theorem dX2_readUnit_34 : decode cX2_readUnit 34 = .ok (.iadd, 1) := by decide +kernel
theorem dX2_readUnit_35 : decode cX2_readUnit 35 = .ok (.putfield 31, 3) := by decide +kernel
theorem dX2_readUnit_38 : decode cX2_readUnit 38 = .ok (.aload_n 0, 1) := by decide +kernel
theorem dX2_readUnit_39 : decode cX2_readUnit 39 = .ok (.getfield 14, 3) := by decide +kernel
theorem dX2_readUnit_42 : decode cX2_readUnit 42 = .ok (.getfield 60, 3) := by decide +kernel
theorem dX2_readUnit_45 : decode cX2_readUnit 45 = .ok (.iload_n 3, 1) := by decide +kernel
theorem dX2_readUnit_46 : decode cX2_readUnit 46 = .ok (.ineg, 1) := by decide +kernel
theorem dX2_readUnit_47 : decode cX2_readUnit 47 = .ok (.invokevirtual 63, 3) := by decide +kernel
theorem dX2_readUnit_50 : decode cX2_readUnit 50 = .ok (.pop, 1) := by decide +kernel
theorem dX2_readUnit_51 : decode cX2_readUnit 51 = .ok (.iconst 1, 1) := by decide +kernel
theorem dX2_readUnit_52 : decode cX2_readUnit 52 = .ok (.ireturn, 1) := by decide +kernel
theorem dX2_readUnit_53 : decode cX2_readUnit 53 = .ok (.iload_n 2, 1) := by decide +kernel
theorem dX2_readUnit_54 : decode cX2_readUnit 54 = .ok (.bipush 33, 2) := by decide +kernel
theorem dX2_readUnit_56 : decode cX2_readUnit 56 = .ok (.if_icmp .eq 9, 3) := by decide +kernel
theorem dX2_readUnit_59 : decode cX2_readUnit 59 = .ok (.iload_n 2, 1) := by decide +kernel
theorem dX2_readUnit_60 : decode cX2_readUnit 60 = .ok (.bipush 40, 2) := by decide +kernel
theorem dX2_readUnit_62 : decode cX2_readUnit 62 = .ok (.if_icmp .ne 8, 3) := by decide +kernel
theorem dX2_readUnit_65 : decode cX2_readUnit 65 = .ok (.iload_n 1, 1) := by decide +kernel
theorem dX2_readUnit_66 : decode cX2_readUnit 66 = .ok (.iconst 5, 1) := by decide +kernel
theorem dX2_readUnit_67 : decode cX2_readUnit 67 = .ok (.if_icmp .lt 5, 3) := by decide +kernel
theorem dX2_readUnit_70 : decode cX2_readUnit 70 = .ok (.iconst 0, 1) := by decide +kernel
theorem dX2_readUnit_71 : decode cX2_readUnit 71 = .ok (.ireturn, 1) := by decide +kernel
theorem dX2_readUnit_72 : decode cX2_readUnit 72 = .ok (.aload_n 0, 1) := by decide +kernel
theorem dX2_readUnit_73 : decode cX2_readUnit 73 = .ok (.dup, 1) := by decide +kernel
theorem dX2_readUnit_74 : decode cX2_readUnit 74 = .ok (.getfield 31, 3) := by decide +kernel
theorem dX2_readUnit_77 : decode cX2_readUnit 77 = .ok (.iconst 1, 1) := by decide +kernel
theorem dX2_readUnit_78 : decode cX2_readUnit 78 = .ok (.iadd, 1) := by decide +kernel
theorem dX2_readUnit_79 : decode cX2_readUnit 79 = .ok (.putfield 31, 3) := by decide +kernel
theorem dX2_readUnit_82 : decode cX2_readUnit 82 = .ok (.iload_n 2, 1) := by decide +kernel
theorem dX2_readUnit_83 : decode cX2_readUnit 83 = .ok (.bipush 33, 2) := by decide +kernel
theorem dX2_readUnit_85 : decode cX2_readUnit 85 = .ok (.if_icmp .ne 13, 3) := by decide +kernel
theorem dX2_readUnit_88 : decode cX2_readUnit 88 = .ok (.aload_n 0, 1) := by decide +kernel
theorem dX2_readUnit_89 : decode cX2_readUnit 89 = .ok (.iload_n 1, 1) := by decide +kernel
theorem dX2_readUnit_90 : decode cX2_readUnit 90 = .ok (.iconst 1, 1) := by decide +kernel
theorem dX2_readUnit_91 : decode cX2_readUnit 91 = .ok (.iadd, 1) := by decide +kernel
theorem dX2_readUnit_92 : decode cX2_readUnit 92 = .ok (.invokevirtual 75, 3) := by decide +kernel
theorem dX2_readUnit_95 : decode cX2_readUnit 95 = .ok (.goto 10, 3) := by decide +kernel
theorem dX2_readUnit_98 : decode cX2_readUnit 98 = .ok (.aload_n 0, 1) := by decide +kernel
theorem dX2_readUnit_99 : decode cX2_readUnit 99 = .ok (.iload_n 1, 1) := by decide +kernel
theorem dX2_readUnit_100 : decode cX2_readUnit 100 = .ok (.iconst 1, 1) := by decide +kernel
theorem dX2_readUnit_101 : decode cX2_readUnit 101 = .ok (.iadd, 1) := by decide +kernel
theorem dX2_readUnit_102 : decode cX2_readUnit 102 = .ok (.invokevirtual 78, 3) := by decide +kernel
theorem dX2_readUnit_105 : decode cX2_readUnit 105 = .ok (.ireturn, 1) := by decide +kernel
theorem dX2_readNot_0 : decode cX2_readNot 0 = .ok (.aload_n 0, 1) := by decide +kernel
theorem dX2_readNot_1 : decode cX2_readNot 1 = .ok (.iload_n 1, 1) := by decide +kernel
theorem dX2_readNot_2 : decode cX2_readNot 2 = .ok (.invokevirtual 49, 3) := by decide +kernel
theorem dX2_readNot_5 : decode cX2_readNot 5 = .ok (.ifCond .ne 5, 3) := by decide +kernel
theorem dX2_readNot_8 : decode cX2_readNot 8 = .ok (.iconst 0, 1) := by decide +kernel
theorem dX2_readNot_9 : decode cX2_readNot 9 = .ok (.ireturn, 1) := by decide +kernel
theorem dX2_readNot_10 : decode cX2_readNot 10 = .ok (.aload_n 0, 1) := by decide +kernel
theorem dX2_readNot_11 : decode cX2_readNot 11 = .ok (.getfield 14, 3) := by decide +kernel
theorem dX2_readNot_14 : decode cX2_readNot 14 = .ok (.getfield 60, 3) := by decide +kernel
theorem dX2_readNot_17 : decode cX2_readNot 17 = .ok (.bipush (-33), 2) := by decide +kernel
theorem dX2_readNot_19 : decode cX2_readNot 19 = .ok (.invokevirtual 63, 3) := by decide +kernel
theorem dX2_readNot_22 : decode cX2_readNot 22 = .ok (.pop, 1) := by decide +kernel
theorem dX2_readNot_23 : decode cX2_readNot 23 = .ok (.iconst 1, 1) := by decide +kernel
theorem dX2_readNot_24 : decode cX2_readNot 24 = .ok (.ireturn, 1) := by decide +kernel
theorem dX2_readBracketed_0 : decode cX2_readBracketed 0 = .ok (.aload_n 0, 1) := by decide +kernel
theorem dX2_readBracketed_1 : decode cX2_readBracketed 1 = .ok (.iconst 0, 1) := by decide +kernel
theorem dX2_readBracketed_2 : decode cX2_readBracketed 2 = .ok (.iload_n 1, 1) := by decide +kernel
theorem dX2_readBracketed_3 : decode cX2_readBracketed 3 = .ok (.invokevirtual 41, 3) := by decide +kernel
theorem dX2_readBracketed_6 : decode cX2_readBracketed 6 = .ok (.ifCond .eq 12, 3) := by decide +kernel
theorem dX2_readBracketed_9 : decode cX2_readBracketed 9 = .ok (.aload_n 0, 1) := by decide +kernel
theorem dX2_readBracketed_10 : decode cX2_readBracketed 10 = .ok (.invokevirtual 53, 3) := by decide +kernel
theorem dX2_readBracketed_13 : decode cX2_readBracketed 13 = .ok (.bipush 41, 2) := by decide +kernel
theorem dX2_readBracketed_15 : decode cX2_readBracketed 15 = .ok (.if_icmp .eq 5, 3) := by decide +kernel
theorem dX2_readBracketed_18 : decode cX2_readBracketed 18 = .ok (.iconst 0, 1) := by decide +kernel
theorem dX2_readBracketed_19 : decode cX2_readBracketed 19 = .ok (.ireturn, 1) := by decide +kernel
theorem dX2_readBracketed_20 : decode cX2_readBracketed 20 = .ok (.aload_n 0, 1) := by decide +kernel
theorem dX2_readBracketed_21 : decode cX2_readBracketed 21 = .ok (.dup, 1) := by decide +kernel
theorem dX2_readBracketed_22 : decode cX2_readBracketed 22 = .ok (.getfield 31, 3) := by decide +kernel
theorem dX2_readBracketed_25 : decode cX2_readBracketed 25 = .ok (.iconst 1, 1) := by decide +kernel
theorem dX2_readBracketed_26 : decode cX2_readBracketed 26 = .ok (.iadd, 1) := by decide +kernel
theorem dX2_readBracketed_27 : decode cX2_readBracketed 27 = .ok (.putfield 31, 3) := by decide +kernel
theorem dX2_readBracketed_30 : decode cX2_readBracketed 30 = .ok (.iconst 1, 1) := by decide +kernel
theorem dX2_readBracketed_31 : decode cX2_readBracketed 31 = .ok (.ireturn, 1) := by decide +kernel
theorem dX2_readNumber_0 : decode cX2_readNumber 0 = .ok (.iconst 0, 1) := by decide +kernel
theorem dX2_readNumber_1 : decode cX2_readNumber 1 = .ok (.istore_n 1, 1) := by decide +kernel
theorem dX2_readNumber_2 : decode cX2_readNumber 2 = .ok (.iconst 0, 1) := by decide +kernel
theorem dX2_readNumber_3 : decode cX2_readNumber 3 = .ok (.istore_n 2, 1) := by decide +kernel
theorem dX2_readNumber_4 : decode cX2_readNumber 4 = .ok (.iload_n 2, 1) := by decide +kernel
theorem dX2_readNumber_5 : decode cX2_readNumber 5 = .ok (.iconst 4, 1) := by decide +kernel
theorem dX2_readNumber_6 : decode cX2_readNumber 6 = .ok (.if_icmp .ge 42, 3) := by decide +kernel
theorem dX2_readNumber_9 : decode cX2_readNumber 9 = .ok (.aload_n 0, 1) := by decide +kernel
theorem dX2_readNumber_10 : decode cX2_readNumber 10 = .ok (.invokevirtual 53, 3) := by decide +kernel
theorem dX2_readNumber_13 : decode cX2_readNumber 13 = .ok (.invokestatic 66, 3) := by decide +kernel
theorem dX2_readNumber_16 : decode cX2_readNumber 16 = .ok (.ifCond .eq 32, 3) := by decide +kernel
theorem dX2_readNumber_19 : decode cX2_readNumber 19 = .ok (.iload_n 1, 1) := by decide +kernel
theorem dX2_readNumber_20 : decode cX2_readNumber 20 = .ok (.bipush 10, 2) := by decide +kernel
theorem dX2_readNumber_22 : decode cX2_readNumber 22 = .ok (.imul, 1) := by decide +kernel
theorem dX2_readNumber_23 : decode cX2_readNumber 23 = .ok (.aload_n 0, 1) := by decide +kernel
theorem dX2_readNumber_24 : decode cX2_readNumber 24 = .ok (.invokevirtual 53, 3) := by decide +kernel
theorem dX2_readNumber_27 : decode cX2_readNumber 27 = .ok (.iadd, 1) := by decide +kernel
theorem dX2_readNumber_28 : decode cX2_readNumber 28 = .ok (.bipush 48, 2) := by decide +kernel
theorem dX2_readNumber_30 : decode cX2_readNumber 30 = .ok (.isub, 1) := by decide +kernel
theorem dX2_readNumber_31 : decode cX2_readNumber 31 = .ok (.istore_n 1, 1) := by decide +kernel
theorem dX2_readNumber_32 : decode cX2_readNumber 32 = .ok (.aload_n 0, 1) := by decide +kernel
theorem dX2_readNumber_33 : decode cX2_readNumber 33 = .ok (.dup, 1) := by decide +kernel
theorem dX2_readNumber_34 : decode cX2_readNumber 34 = .ok (.getfield 31, 3) := by decide +kernel
theorem dX2_readNumber_37 : decode cX2_readNumber 37 = .ok (.iconst 1, 1) := by decide +kernel
theorem dX2_readNumber_38 : decode cX2_readNumber 38 = .ok (.iadd, 1) := by decide +kernel
theorem dX2_readNumber_39 : decode cX2_readNumber 39 = .ok (.putfield 31, 3) := by decide +kernel
theorem dX2_readNumber_42 : decode cX2_readNumber 42 = .ok (.iinc 2 1, 3) := by decide +kernel
theorem dX2_readNumber_45 : decode cX2_readNumber 45 = .ok (.goto (-41), 3) := by decide +kernel
theorem dX2_readNumber_48 : decode cX2_readNumber 48 = .ok (.aload_n 0, 1) := by decide +kernel
theorem dX2_readNumber_49 : decode cX2_readNumber 49 = .ok (.getfield 14, 3) := by decide +kernel
theorem dX2_readNumber_52 : decode cX2_readNumber 52 = .ok (.getfield 60, 3) := by decide +kernel
theorem dX2_readNumber_55 : decode cX2_readNumber 55 = .ok (.iload_n 1, 1) := by decide +kernel
theorem dX2_readNumber_56 : decode cX2_readNumber 56 = .ok (.invokevirtual 63, 3) := by decide +kernel
theorem dX2_readNumber_59 : decode cX2_readNumber 59 = .ok (.pop, 1) := by decide +kernel
theorem dX2_readNumber_60 : decode cX2_readNumber 60 = .ok (.return_, 1) := by decide +kernel
theorem dX2_next_0 : decode cX2_next 0 = .ok (.aload_n 0, 1) := by decide +kernel
theorem dX2_next_1 : decode cX2_next 1 = .ok (.getfield 23, 3) := by decide +kernel
theorem dX2_next_4 : decode cX2_next 4 = .ok (.aload_n 0, 1) := by decide +kernel
theorem dX2_next_5 : decode cX2_next 5 = .ok (.getfield 31, 3) := by decide +kernel
theorem dX2_next_8 : decode cX2_next 8 = .ok (.invokevirtual 81, 3) := by decide +kernel
theorem dX2_next_11 : decode cX2_next 11 = .ok (.ifCond .eq 17, 3) := by decide +kernel
theorem dX2_next_14 : decode cX2_next 14 = .ok (.aload_n 0, 1) := by decide +kernel
theorem dX2_next_15 : decode cX2_next 15 = .ok (.getfield 23, 3) := by decide +kernel
theorem dX2_next_18 : decode cX2_next 18 = .ok (.aload_n 0, 1) := by decide +kernel
theorem dX2_next_19 : decode cX2_next 19 = .ok (.getfield 31, 3) := by decide +kernel
theorem dX2_next_22 : decode cX2_next 22 = .ok (.invokevirtual 84, 3) := by decide +kernel
theorem dX2_next_25 : decode cX2_next 25 = .ok (.goto 4, 3) := by decide +kernel
theorem dX2_next_28 : decode cX2_next 28 = .ok (.iconst (-1), 1) := by decide +kernel
theorem dX2_next_29 : decode cX2_next 29 = .ok (.ireturn, 1) := by decide +kernel
theorem dX2_nameOf_0 : decode cX2_nameOf 0 = .ok (.iload_n 1, 1) := by decide +kernel
theorem dX2_nameOf_1 : decode cX2_nameOf 1 = .ok (.tableswitch 176 100 119 #[148, 176, 176, 176, 176, 176, 176, 162, 95, 176, 121, 108, 176, 176, 176, 176, 176, 176, 176, 134], 95) := by decide +kernel
theorem dX2_nameOf_96 : decode cX2_nameOf 96 = .ok (.aload_n 0, 1) := by decide +kernel
theorem dX2_nameOf_97 : decode cX2_nameOf 97 = .ok (.getfield 27, 3) := by decide +kernel
theorem dX2_nameOf_100 : decode cX2_nameOf 100 = .ok (.ifCond .ne 7, 3) := by decide +kernel
theorem dX2_nameOf_103 : decode cX2_nameOf 103 = .ok (.iconst 1, 1) := by decide +kernel
theorem dX2_nameOf_104 : decode cX2_nameOf 104 = .ok (.goto 4, 3) := by decide +kernel
theorem dX2_nameOf_107 : decode cX2_nameOf 107 = .ok (.iconst 0, 1) := by decide +kernel
theorem dX2_nameOf_108 : decode cX2_nameOf 108 = .ok (.ireturn, 1) := by decide +kernel
theorem dX2_nameOf_109 : decode cX2_nameOf 109 = .ok (.aload_n 0, 1) := by decide +kernel
theorem dX2_nameOf_110 : decode cX2_nameOf 110 = .ok (.getfield 27, 3) := by decide +kernel
theorem dX2_nameOf_113 : decode cX2_nameOf 113 = .ok (.ifCond .ne 7, 3) := by decide +kernel
theorem dX2_nameOf_116 : decode cX2_nameOf 116 = .ok (.iconst 2, 1) := by decide +kernel
theorem dX2_nameOf_117 : decode cX2_nameOf 117 = .ok (.goto 4, 3) := by decide +kernel
theorem dX2_nameOf_120 : decode cX2_nameOf 120 = .ok (.iconst 0, 1) := by decide +kernel
theorem dX2_nameOf_121 : decode cX2_nameOf 121 = .ok (.ireturn, 1) := by decide +kernel
theorem dX2_nameOf_122 : decode cX2_nameOf 122 = .ok (.aload_n 0, 1) := by decide +kernel
theorem dX2_nameOf_123 : decode cX2_nameOf 123 = .ok (.getfield 27, 3) := by decide +kernel
theorem dX2_nameOf_126 : decode cX2_nameOf 126 = .ok (.ifCond .ne 7, 3) := by decide +kernel
theorem dX2_nameOf_129 : decode cX2_nameOf 129 = .ok (.iconst 3, 1) := by decide +kernel
theorem dX2_nameOf_130 : decode cX2_nameOf 130 = .ok (.goto 4, 3) := by decide +kernel
theorem dX2_nameOf_133 : decode cX2_nameOf 133 = .ok (.iconst 0, 1) := by decide +kernel
theorem dX2_nameOf_134 : decode cX2_nameOf 134 = .ok (.ireturn, 1) := by decide +kernel
theorem dX2_nameOf_135 : decode cX2_nameOf 135 = .ok (.aload_n 0, 1) := by decide +kernel
theorem dX2_nameOf_136 : decode cX2_nameOf 136 = .ok (.getfield 27, 3) := by decide +kernel
theorem dX2_nameOf_139 : decode cX2_nameOf 139 = .ok (.iconst 1, 1) := by decide +kernel
theorem dX2_nameOf_140 : decode cX2_nameOf 140 = .ok (.if_icmp .ne 7, 3) := by decide +kernel
theorem dX2_nameOf_143 : decode cX2_nameOf 143 = .ok (.iconst 1, 1) := by decide +kernel
theorem dX2_nameOf_144 : decode cX2_nameOf 144 = .ok (.goto 4, 3) := by decide +kernel
theorem dX2_nameOf_147 : decode cX2_nameOf 147 = .ok (.iconst 0, 1) := by decide +kernel
theorem dX2_nameOf_148 : decode cX2_nameOf 148 = .ok (.ireturn, 1) := by decide +kernel
theorem dX2_nameOf_149 : decode cX2_nameOf 149 = .ok (.aload_n 0, 1) := by decide +kernel
theorem dX2_nameOf_150 : decode cX2_nameOf 150 = .ok (.getfield 27, 3) := by decide +kernel
theorem dX2_nameOf_153 : decode cX2_nameOf 153 = .ok (.iconst 1, 1) := by decide +kernel
theorem dX2_nameOf_154 : decode cX2_nameOf 154 = .ok (.if_icmp .ne 7, 3) := by decide +kernel
theorem dX2_nameOf_157 : decode cX2_nameOf 157 = .ok (.iconst 2, 1) := by decide +kernel
theorem dX2_nameOf_158 : decode cX2_nameOf 158 = .ok (.goto 4, 3) := by decide +kernel
theorem dX2_nameOf_161 : decode cX2_nameOf 161 = .ok (.iconst 0, 1) := by decide +kernel
theorem dX2_nameOf_162 : decode cX2_nameOf 162 = .ok (.ireturn, 1) := by decide +kernel
theorem dX2_nameOf_163 : decode cX2_nameOf 163 = .ok (.aload_n 0, 1) := by decide +kernel
theorem dX2_nameOf_164 : decode cX2_nameOf 164 = .ok (.getfield 27, 3) := by decide +kernel
theorem dX2_nameOf_167 : decode cX2_nameOf 167 = .ok (.iconst 1, 1) := by decide +kernel
theorem dX2_nameOf_168 : decode cX2_nameOf 168 = .ok (.if_icmp .ne 7, 3) := by decide +kernel
theorem dX2_nameOf_171 : decode cX2_nameOf 171 = .ok (.iconst 3, 1) := by decide +kernel
theorem dX2_nameOf_172 : decode cX2_nameOf 172 = .ok (.goto 4, 3) := by decide +kernel
theorem dX2_nameOf_175 : decode cX2_nameOf 175 = .ok (.iconst 0, 1) := by decide +kernel
theorem dX2_nameOf_176 : decode cX2_nameOf 176 = .ok (.ireturn, 1) := by decide +kernel
theorem dX2_nameOf_177 : decode cX2_nameOf 177 = .ok (.iconst 0, 1) := by decide +kernel
theorem dX2_nameOf_178 : decode cX2_nameOf 178 = .ok (.ireturn, 1) := by decide +kernel
theorem dX2_levelOf_0 : decode cX2_levelOf 0 = .ok (.iload_n 0, 1) := by decide +kernel
theorem dX2_levelOf_1 : decode cX2_levelOf 1 = .ok (.lookupswitch 101 #[(37, 99), (38, 93), (42, 99), (43, 97), (45, 97), (47, 99), (60, 95), (61, 95), (62, 95), (124, 91)], 91) := by decide +kernel
theorem dX2_levelOf_92 : decode cX2_levelOf 92 = .ok (.iconst 0, 1) := by decide +kernel
theorem dX2_levelOf_93 : decode cX2_levelOf 93 = .ok (.ireturn, 1) := by decide +kernel
theorem dX2_levelOf_94 : decode cX2_levelOf 94 = .ok (.iconst 1, 1) := by decide +kernel
theorem dX2_levelOf_95 : decode cX2_levelOf 95 = .ok (.ireturn, 1) := by decide +kernel
theorem dX2_levelOf_96 : decode cX2_levelOf 96 = .ok (.iconst 2, 1) := by decide +kernel
theorem dX2_levelOf_97 : decode cX2_levelOf 97 = .ok (.ireturn, 1) := by decide +kernel
theorem dX2_levelOf_98 : decode cX2_levelOf 98 = .ok (.iconst 3, 1) := by decide +kernel
theorem dX2_levelOf_99 : decode cX2_levelOf 99 = .ok (.ireturn, 1) := by decide +kernel
theorem dX2_levelOf_100 : decode cX2_levelOf 100 = .ok (.iconst 4, 1) := by decide +kernel
theorem dX2_levelOf_101 : decode cX2_levelOf 101 = .ok (.ireturn, 1) := by decide +kernel
theorem dX2_levelOf_102 : decode cX2_levelOf 102 = .ok (.iconst (-1), 1) := by decide +kernel
theorem dX2_levelOf_103 : decode cX2_levelOf 103 = .ok (.ireturn, 1) := by decide +kernel
theorem dX2_isDigit_0 : decode cX2_isDigit 0 = .ok (.iload_n 0, 1) := by decide +kernel
theorem dX2_isDigit_1 : decode cX2_isDigit 1 = .ok (.bipush 48, 2) := by decide +kernel
theorem dX2_isDigit_3 : decode cX2_isDigit 3 = .ok (.if_icmp .lt 13, 3) := by decide +kernel
theorem dX2_isDigit_6 : decode cX2_isDigit 6 = .ok (.iload_n 0, 1) := by decide +kernel
theorem dX2_isDigit_7 : decode cX2_isDigit 7 = .ok (.bipush 57, 2) := by decide +kernel
theorem dX2_isDigit_9 : decode cX2_isDigit 9 = .ok (.if_icmp .gt 7, 3) := by decide +kernel
theorem dX2_isDigit_12 : decode cX2_isDigit 12 = .ok (.iconst 1, 1) := by decide +kernel
theorem dX2_isDigit_13 : decode cX2_isDigit 13 = .ok (.goto 4, 3) := by decide +kernel
theorem dX2_isDigit_16 : decode cX2_isDigit 16 = .ok (.iconst 0, 1) := by decide +kernel
theorem dX2_isDigit_17 : decode cX2_isDigit 17 = .ok (.ireturn, 1) := by decide +kernel
theorem dX3_init_0 : decode cX3_init 0 = .ok (.aload_n 0, 1) := by decide +kernel
theorem dX3_init_1 : decode cX3_init 1 = .ok (.invokespecial 1, 3) := by decide +kernel
theorem dX3_init_4 : decode cX3_init 4 = .ok (.aload_n 0, 1) := by decide +kernel
theorem dX3_init_5 : decode cX3_init 5 = .ok (.iconst 0, 1) := by decide +kernel
theorem dX3_init_6 : decode cX3_init 6 = .ok (.putfield 7, 3) := by decide +kernel
theorem dX3_init_9 : decode cX3_init 9 = .ok (.aload_n 0, 1) := by decide +kernel
theorem dX3_init_10 : decode cX3_init 10 = .ok (.iload_n 1, 1) := by decide +kernel
theorem dX3_init_11 : decode cX3_init 11 = .ok (.ifCond .le 7, 3) := by decide +kernel
theorem dX3_init_14 : decode cX3_init 14 = .ok (.iload_n 1, 1) := by decide +kernel
theorem dX3_init_15 : decode cX3_init 15 = .ok (.goto 4, 3) := by decide +kernel
theorem dX3_init_18 : decode cX3_init 18 = .ok (.iconst 0, 1) := by decide +kernel
theorem dX3_init_19 : decode cX3_init 19 = .ok (.newarray .int, 2) := by decide +kernel
theorem dX3_init_21 : decode cX3_init 21 = .ok (.putfield 13, 3) := by decide +kernel
theorem dX3_init_24 : decode cX3_init 24 = .ok (.return_, 1) := by decide +kernel
theorem dX3_size_0 : decode cX3_size 0 = .ok (.aload_n 0, 1) := by decide +kernel
theorem dX3_size_1 : decode cX3_size 1 = .ok (.getfield 7, 3) := by decide +kernel
theorem dX3_size_4 : decode cX3_size 4 = .ok (.ireturn, 1) := by decide +kernel
theorem dX3_has_0 : decode cX3_has 0 = .ok (.iload_n 1, 1) := by decide +kernel
theorem dX3_has_1 : decode cX3_has 1 = .ok (.ifCond .lt 24, 3) := by decide +kernel
theorem dX3_has_4 : decode cX3_has 4 = .ok (.iload_n 1, 1) := by decide +kernel
theorem dX3_has_5 : decode cX3_has 5 = .ok (.aload_n 0, 1) := by decide +kernel
theorem dX3_has_6 : decode cX3_has 6 = .ok (.getfield 7, 3) := by decide +kernel
theorem dX3_has_9 : decode cX3_has 9 = .ok (.if_icmp .ge 16, 3) := by decide +kernel
theorem dX3_has_12 : decode cX3_has 12 = .ok (.iload_n 1, 1) := by decide +kernel
theorem dX3_has_13 : decode cX3_has 13 = .ok (.aload_n 0, 1) := by decide +kernel
theorem dX3_has_14 : decode cX3_has 14 = .ok (.getfield 13, 3) := by decide +kernel
theorem dX3_has_17 : decode cX3_has 17 = .ok (.arraylength, 1) := by decide +kernel
theorem dX3_has_18 : decode cX3_has 18 = .ok (.if_icmp .ge 7, 3) := by decide +kernel
theorem dX3_has_21 : decode cX3_has 21 = .ok (.iconst 1, 1) := by decide +kernel
theorem dX3_has_22 : decode cX3_has 22 = .ok (.goto 4, 3) := by decide +kernel
theorem dX3_has_25 : decode cX3_has 25 = .ok (.iconst 0, 1) := by decide +kernel
theorem dX3_has_26 : decode cX3_has 26 = .ok (.ireturn, 1) := by decide +kernel
theorem dX3_at_0 : decode cX3_at 0 = .ok (.iload_n 1, 1) := by decide +kernel
theorem dX3_at_1 : decode cX3_at 1 = .ok (.ifCond .lt 29, 3) := by decide +kernel
theorem dX3_at_4 : decode cX3_at 4 = .ok (.iload_n 1, 1) := by decide +kernel
theorem dX3_at_5 : decode cX3_at 5 = .ok (.aload_n 0, 1) := by decide +kernel
theorem dX3_at_6 : decode cX3_at 6 = .ok (.getfield 7, 3) := by decide +kernel
theorem dX3_at_9 : decode cX3_at 9 = .ok (.if_icmp .ge 21, 3) := by decide +kernel
theorem dX3_at_12 : decode cX3_at 12 = .ok (.iload_n 1, 1) := by decide +kernel
theorem dX3_at_13 : decode cX3_at 13 = .ok (.aload_n 0, 1) := by decide +kernel
theorem dX3_at_14 : decode cX3_at 14 = .ok (.getfield 13, 3) := by decide +kernel
theorem dX3_at_17 : decode cX3_at 17 = .ok (.arraylength, 1) := by decide +kernel
theorem dX3_at_18 : decode cX3_at 18 = .ok (.if_icmp .ge 12, 3) := by decide +kernel
theorem dX3_at_21 : decode cX3_at 21 = .ok (.aload_n 0, 1) := by decide +kernel
theorem dX3_at_22 : decode cX3_at 22 = .ok (.getfield 13, 3) := by decide +kernel
theorem dX3_at_25 : decode cX3_at 25 = .ok (.iload_n 1, 1) := by decide +kernel
theorem dX3_at_26 : decode cX3_at 26 = .ok (.iaload, 1) := by decide +kernel
theorem dX3_at_27 : decode cX3_at 27 = .ok (.goto 4, 3) := by decide +kernel
theorem dX3_at_30 : decode cX3_at 30 = .ok (.iconst 0, 1) := by decide +kernel
theorem dX3_at_31 : decode cX3_at 31 = .ok (.ireturn, 1) := by decide +kernel
theorem dX3_add_0 : decode cX3_add 0 = .ok (.aload_n 0, 1) := by decide +kernel
theorem dX3_add_1 : decode cX3_add 1 = .ok (.getfield 7, 3) := by decide +kernel
theorem dX3_add_4 : decode cX3_add 4 = .ok (.ifCond .lt 15, 3) := by decide +kernel
theorem dX3_add_7 : decode cX3_add 7 = .ok (.aload_n 0, 1) := by decide +kernel
theorem dX3_add_8 : decode cX3_add 8 = .ok (.getfield 7, 3) := by decide +kernel
theorem dX3_add_11 : decode cX3_add 11 = .ok (.aload_n 0, 1) := by decide +kernel
theorem dX3_add_12 : decode cX3_add 12 = .ok (.getfield 13, 3) := by decide +kernel
theorem dX3_add_15 : decode cX3_add 15 = .ok (.arraylength, 1) := by decide +kernel
theorem dX3_add_16 : decode cX3_add 16 = .ok (.if_icmp .lt 5, 3) := by decide +kernel
theorem dX3_add_19 : decode cX3_add 19 = .ok (.iconst 0, 1) := by decide +kernel
theorem dX3_add_20 : decode cX3_add 20 = .ok (.ireturn, 1) := by decide +kernel
theorem dX3_add_21 : decode cX3_add 21 = .ok (.aload_n 0, 1) := by decide +kernel
theorem dX3_add_22 : decode cX3_add 22 = .ok (.getfield 13, 3) := by decide +kernel
theorem dX3_add_25 : decode cX3_add 25 = .ok (.aload_n 0, 1) := by decide +kernel
theorem dX3_add_26 : decode cX3_add 26 = .ok (.getfield 7, 3) := by decide +kernel
theorem dX3_add_29 : decode cX3_add 29 = .ok (.iload_n 1, 1) := by decide +kernel
theorem dX3_add_30 : decode cX3_add 30 = .ok (.iastore, 1) := by decide +kernel
theorem dX3_add_31 : decode cX3_add 31 = .ok (.aload_n 0, 1) := by decide +kernel
theorem dX3_add_32 : decode cX3_add 32 = .ok (.dup, 1) := by decide +kernel
theorem dX3_add_33 : decode cX3_add 33 = .ok (.getfield 7, 3) := by decide +kernel
theorem dX3_add_36 : decode cX3_add 36 = .ok (.iconst 1, 1) := by decide +kernel
theorem dX3_add_37 : decode cX3_add 37 = .ok (.iadd, 1) := by decide +kernel
theorem dX3_add_38 : decode cX3_add 38 = .ok (.putfield 7, 3) := by decide +kernel
theorem dX3_add_41 : decode cX3_add 41 = .ok (.iconst 1, 1) := by decide +kernel
theorem dX3_add_42 : decode cX3_add 42 = .ok (.ireturn, 1) := by decide +kernel
theorem dX3_clear_0 : decode cX3_clear 0 = .ok (.aload_n 0, 1) := by decide +kernel
theorem dX3_clear_1 : decode cX3_clear 1 = .ok (.iconst 0, 1) := by decide +kernel
theorem dX3_clear_2 : decode cX3_clear 2 = .ok (.putfield 7, 3) := by decide +kernel
theorem dX3_clear_5 : decode cX3_clear 5 = .ok (.return_, 1) := by decide +kernel
theorem dX3_copyFrom_0 : decode cX3_copyFrom 0 = .ok (.aload_n 0, 1) := by decide +kernel
theorem dX3_copyFrom_1 : decode cX3_copyFrom 1 = .ok (.iconst 0, 1) := by decide +kernel
theorem dX3_copyFrom_2 : decode cX3_copyFrom 2 = .ok (.putfield 7, 3) := by decide +kernel
theorem dX3_copyFrom_5 : decode cX3_copyFrom 5 = .ok (.iconst 0, 1) := by decide +kernel
theorem dX3_copyFrom_6 : decode cX3_copyFrom 6 = .ok (.istore_n 2, 1) := by decide +kernel
theorem dX3_copyFrom_7 : decode cX3_copyFrom 7 = .ok (.iload_n 2, 1) := by decide +kernel
theorem dX3_copyFrom_8 : decode cX3_copyFrom 8 = .ok (.aload_n 1, 1) := by decide +kernel
theorem dX3_copyFrom_9 : decode cX3_copyFrom 9 = .ok (.getfield 7, 3) := by decide +kernel
theorem dX3_copyFrom_12 : decode cX3_copyFrom 12 = .ok (.if_icmp .ge 28, 3) := by decide +kernel
theorem dX3_copyFrom_15 : decode cX3_copyFrom 15 = .ok (.iload_n 2, 1) := by decide +kernel
theorem dX3_copyFrom_16 : decode cX3_copyFrom 16 = .ok (.aload_n 0, 1) := by decide +kernel
theorem dX3_copyFrom_17 : decode cX3_copyFrom 17 = .ok (.getfield 13, 3) := by decide +kernel
theorem dX3_copyFrom_20 : decode cX3_copyFrom 20 = .ok (.arraylength, 1) := by decide +kernel
theorem dX3_copyFrom_21 : decode cX3_copyFrom 21 = .ok (.if_icmp .ge 19, 3) := by decide +kernel
theorem dX3_copyFrom_24 : decode cX3_copyFrom 24 = .ok (.aload_n 0, 1) := by decide +kernel
theorem dX3_copyFrom_25 : decode cX3_copyFrom 25 = .ok (.aload_n 1, 1) := by decide +kernel
theorem dX3_copyFrom_26 : decode cX3_copyFrom 26 = .ok (.iload_n 2, 1) := by decide +kernel
theorem dX3_copyFrom_27 : decode cX3_copyFrom 27 = .ok (.invokevirtual 17, 3) := by decide +kernel
theorem dX3_copyFrom_30 : decode cX3_copyFrom 30 = .ok (.invokevirtual 21, 3) := by decide +kernel
theorem dX3_copyFrom_33 : decode cX3_copyFrom 33 = .ok (.pop, 1) := by decide +kernel
theorem dX3_copyFrom_34 : decode cX3_copyFrom 34 = .ok (.iinc 2 1, 3) := by decide +kernel
theorem dX3_copyFrom_37 : decode cX3_copyFrom 37 = .ok (.goto (-30), 3) := by decide +kernel
theorem dX3_copyFrom_40 : decode cX3_copyFrom 40 = .ok (.return_, 1) := by decide +kernel
theorem dX4_init_0 : decode cX4_init 0 = .ok (.aload_n 0, 1) := by decide +kernel
theorem dX4_init_1 : decode cX4_init 1 = .ok (.invokespecial 3, 3) := by decide +kernel
theorem dX4_init_4 : decode cX4_init 4 = .ok (.aload_n 0, 1) := by decide +kernel
theorem dX4_init_5 : decode cX4_init 5 = .ok (.bipush 24, 2) := by decide +kernel
theorem dX4_init_7 : decode cX4_init 7 = .ok (.newarray .int, 2) := by decide +kernel
theorem dX4_init_9 : decode cX4_init 9 = .ok (.putfield 9, 3) := by decide +kernel
theorem dX4_init_12 : decode cX4_init 12 = .ok (.aload_n 0, 1) := by decide +kernel
theorem dX4_init_13 : decode cX4_init 13 = .ok (.iconst 0, 1) := by decide +kernel
theorem dX4_init_14 : decode cX4_init 14 = .ok (.putfield 15, 3) := by decide +kernel
theorem dX4_init_17 : decode cX4_init 17 = .ok (.aload_n 0, 1) := by decide +kernel
theorem dX4_init_18 : decode cX4_init 18 = .ok (.iconst 0, 1) := by decide +kernel
theorem dX4_init_19 : decode cX4_init 19 = .ok (.putfield 19, 3) := by decide +kernel
theorem dX4_init_22 : decode cX4_init 22 = .ok (.return_, 1) := by decide +kernel
theorem dX4_isMissing_0 : decode cX4_isMissing 0 = .ok (.aload_n 0, 1) := by decide +kernel
theorem dX4_isMissing_1 : decode cX4_isMissing 1 = .ok (.getfield 15, 3) := by decide +kernel
theorem dX4_isMissing_4 : decode cX4_isMissing 4 = .ok (.ifCond .ne 7, 3) := by decide +kernel
theorem dX4_isMissing_7 : decode cX4_isMissing 7 = .ok (.iconst 1, 1) := by decide +kernel
theorem dX4_isMissing_8 : decode cX4_isMissing 8 = .ok (.goto 4, 3) := by decide +kernel
theorem dX4_isMissing_11 : decode cX4_isMissing 11 = .ok (.iconst 0, 1) := by decide +kernel
theorem dX4_isMissing_12 : decode cX4_isMissing 12 = .ok (.ireturn, 1) := by decide +kernel
theorem dX4_remake_0 : decode cX4_remake 0 = .ok (.aload_n 0, 1) := by decide +kernel
theorem dX4_remake_1 : decode cX4_remake 1 = .ok (.iload_n 1, 1) := by decide +kernel
theorem dX4_remake_2 : decode cX4_remake 2 = .ok (.putfield 15, 3) := by decide +kernel
theorem dX4_remake_5 : decode cX4_remake 5 = .ok (.aload_n 0, 1) := by decide +kernel
theorem dX4_remake_6 : decode cX4_remake 6 = .ok (.iload_n 2, 1) := by decide +kernel
theorem dX4_remake_7 : decode cX4_remake 7 = .ok (.putfield 19, 3) := by decide +kernel
theorem dX4_remake_10 : decode cX4_remake 10 = .ok (.iconst 0, 1) := by decide +kernel
theorem dX4_remake_11 : decode cX4_remake 11 = .ok (.istore_n 3, 1) := by decide +kernel
theorem dX4_remake_12 : decode cX4_remake 12 = .ok (.iload_n 3, 1) := by decide +kernel
theorem dX4_remake_13 : decode cX4_remake 13 = .ok (.aload_n 0, 1) := by decide +kernel
theorem dX4_remake_14 : decode cX4_remake 14 = .ok (.getfield 9, 3) := by decide +kernel
theorem dX4_remake_17 : decode cX4_remake 17 = .ok (.arraylength, 1) := by decide +kernel
theorem dX4_remake_18 : decode cX4_remake 18 = .ok (.if_icmp .ge 16, 3) := by decide +kernel
theorem dX4_remake_21 : decode cX4_remake 21 = .ok (.aload_n 0, 1) := by decide +kernel
theorem dX4_remake_22 : decode cX4_remake 22 = .ok (.getfield 9, 3) := by decide +kernel
theorem dX4_remake_25 : decode cX4_remake 25 = .ok (.iload_n 3, 1) := by decide +kernel
theorem dX4_remake_26 : decode cX4_remake 26 = .ok (.iconst 0, 1) := by decide +kernel
theorem dX4_remake_27 : decode cX4_remake 27 = .ok (.iastore, 1) := by decide +kernel
theorem dX4_remake_28 : decode cX4_remake 28 = .ok (.iinc 3 1, 3) := by decide +kernel
theorem dX4_remake_31 : decode cX4_remake 31 = .ok (.goto (-19), 3) := by decide +kernel
theorem dX4_remake_34 : decode cX4_remake 34 = .ok (.return_, 1) := by decide +kernel
theorem dX4_has_0 : decode cX4_has 0 = .ok (.iload_n 1, 1) := by decide +kernel
theorem dX4_has_1 : decode cX4_has 1 = .ok (.ifCond .lt 24, 3) := by decide +kernel
theorem dX4_has_4 : decode cX4_has 4 = .ok (.iload_n 1, 1) := by decide +kernel
theorem dX4_has_5 : decode cX4_has 5 = .ok (.aload_n 0, 1) := by decide +kernel
theorem dX4_has_6 : decode cX4_has 6 = .ok (.getfield 19, 3) := by decide +kernel
theorem dX4_has_9 : decode cX4_has 9 = .ok (.if_icmp .ge 16, 3) := by decide +kernel
theorem dX4_has_12 : decode cX4_has 12 = .ok (.iload_n 1, 1) := by decide +kernel
theorem dX4_has_13 : decode cX4_has 13 = .ok (.aload_n 0, 1) := by decide +kernel
theorem dX4_has_14 : decode cX4_has 14 = .ok (.getfield 9, 3) := by decide +kernel
theorem dX4_has_17 : decode cX4_has 17 = .ok (.arraylength, 1) := by decide +kernel
theorem dX4_has_18 : decode cX4_has 18 = .ok (.if_icmp .ge 7, 3) := by decide +kernel
theorem dX4_has_21 : decode cX4_has 21 = .ok (.iconst 1, 1) := by decide +kernel
theorem dX4_has_22 : decode cX4_has 22 = .ok (.goto 4, 3) := by decide +kernel
theorem dX4_has_25 : decode cX4_has 25 = .ok (.iconst 0, 1) := by decide +kernel
theorem dX4_has_26 : decode cX4_has 26 = .ok (.ireturn, 1) := by decide +kernel
theorem dX4_hasRun_0 : decode cX4_hasRun 0 = .ok (.iload_n 1, 1) := by decide +kernel
theorem dX4_hasRun_1 : decode cX4_hasRun 1 = .ok (.ifCond .lt 29, 3) := by decide +kernel
theorem dX4_hasRun_4 : decode cX4_hasRun 4 = .ok (.iload_n 2, 1) := by decide +kernel
theorem dX4_hasRun_5 : decode cX4_hasRun 5 = .ok (.ifCond .lt 25, 3) := by decide +kernel
theorem dX4_hasRun_8 : decode cX4_hasRun 8 = .ok (.iload_n 1, 1) := by decide +kernel
theorem dX4_hasRun_9 : decode cX4_hasRun 9 = .ok (.aload_n 0, 1) := by decide +kernel
theorem dX4_hasRun_10 : decode cX4_hasRun 10 = .ok (.getfield 19, 3) := by decide +kernel
theorem dX4_hasRun_13 : decode cX4_hasRun 13 = .ok (.if_icmp .gt 17, 3) := by decide +kernel
theorem dX4_hasRun_16 : decode cX4_hasRun 16 = .ok (.iload_n 2, 1) := by decide +kernel
theorem dX4_hasRun_17 : decode cX4_hasRun 17 = .ok (.aload_n 0, 1) := by decide +kernel
theorem dX4_hasRun_18 : decode cX4_hasRun 18 = .ok (.getfield 19, 3) := by decide +kernel
theorem dX4_hasRun_21 : decode cX4_hasRun 21 = .ok (.iload_n 1, 1) := by decide +kernel
theorem dX4_hasRun_22 : decode cX4_hasRun 22 = .ok (.isub, 1) := by decide +kernel
theorem dX4_hasRun_23 : decode cX4_hasRun 23 = .ok (.if_icmp .gt 7, 3) := by decide +kernel
theorem dX4_hasRun_26 : decode cX4_hasRun 26 = .ok (.iconst 1, 1) := by decide +kernel
theorem dX4_hasRun_27 : decode cX4_hasRun 27 = .ok (.goto 4, 3) := by decide +kernel
theorem dX4_hasRun_30 : decode cX4_hasRun 30 = .ok (.iconst 0, 1) := by decide +kernel
theorem dX4_hasRun_31 : decode cX4_hasRun 31 = .ok (.ireturn, 1) := by decide +kernel
theorem dX4_at_0 : decode cX4_at 0 = .ok (.aload_n 0, 1) := by decide +kernel
theorem dX4_at_1 : decode cX4_at 1 = .ok (.iload_n 1, 1) := by decide +kernel
theorem dX4_at_2 : decode cX4_at 2 = .ok (.invokevirtual 22, 3) := by decide +kernel
theorem dX4_at_5 : decode cX4_at 5 = .ok (.ifCond .eq 12, 3) := by decide +kernel
theorem dX4_at_8 : decode cX4_at 8 = .ok (.aload_n 0, 1) := by decide +kernel
theorem dX4_at_9 : decode cX4_at 9 = .ok (.getfield 9, 3) := by decide +kernel
theorem dX4_at_12 : decode cX4_at 12 = .ok (.iload_n 1, 1) := by decide +kernel
theorem dX4_at_13 : decode cX4_at 13 = .ok (.iaload, 1) := by decide +kernel
theorem dX4_at_14 : decode cX4_at 14 = .ok (.goto 4, 3) := by decide +kernel
theorem dX4_at_17 : decode cX4_at 17 = .ok (.iconst 0, 1) := by decide +kernel
theorem dX4_at_18 : decode cX4_at 18 = .ok (.ireturn, 1) := by decide +kernel
theorem dX4_write_0 : decode cX4_write 0 = .ok (.aload_n 0, 1) := by decide +kernel
theorem dX4_write_1 : decode cX4_write 1 = .ok (.iload_n 1, 1) := by decide +kernel
theorem dX4_write_2 : decode cX4_write 2 = .ok (.invokevirtual 22, 3) := by decide +kernel
theorem dX4_write_5 : decode cX4_write 5 = .ok (.ifCond .eq 38, 3) := by decide +kernel
theorem dX4_write_8 : decode cX4_write 8 = .ok (.aload_n 0, 1) := by decide +kernel
theorem dX4_write_9 : decode cX4_write 9 = .ok (.getfield 9, 3) := by decide +kernel
theorem dX4_write_12 : decode cX4_write 12 = .ok (.iload_n 1, 1) := by decide +kernel
theorem dX4_write_13 : decode cX4_write 13 = .ok (.aload_n 0, 1) := by decide +kernel
theorem dX4_write_14 : decode cX4_write 14 = .ok (.getfield 15, 3) := by decide +kernel
theorem dX4_write_17 : decode cX4_write 17 = .ok (.bipush 8, 2) := by decide +kernel
theorem dX4_write_19 : decode cX4_write 19 = .ok (.if_icmp .ne 8, 3) := by decide +kernel
theorem dX4_write_22 : decode cX4_write 22 = .ok (.iload_n 2, 1) := by decide +kernel
theorem dX4_write_23 : decode cX4_write 23 = .ok (.i2b, 1) := by decide +kernel
theorem dX4_write_24 : decode cX4_write 24 = .ok (.goto 18, 3) := by decide +kernel
theorem dX4_write_27 : decode cX4_write 27 = .ok (.aload_n 0, 1) := by decide +kernel
theorem dX4_write_28 : decode cX4_write 28 = .ok (.getfield 15, 3) := by decide +kernel
theorem dX4_write_31 : decode cX4_write 31 = .ok (.bipush 16, 2) := by decide +kernel
theorem dX4_write_33 : decode cX4_write 33 = .ok (.if_icmp .ne 8, 3) := by decide +kernel
theorem dX4_write_36 : decode cX4_write 36 = .ok (.iload_n 2, 1) := by decide +kernel
theorem dX4_write_37 : decode cX4_write 37 = .ok (.i2s, 1) := by decide +kernel
theorem dX4_write_38 : decode cX4_write 38 = .ok (.goto 4, 3) := by decide +kernel
theorem dX4_write_41 : decode cX4_write 41 = .ok (.iload_n 2, 1) := by decide +kernel
theorem dX4_write_42 : decode cX4_write 42 = .ok (.iastore, 1) := by decide +kernel
theorem dX4_write_43 : decode cX4_write 43 = .ok (.return_, 1) := by decide +kernel
theorem dX4_take_0 : decode cX4_take 0 = .ok (.iconst 0, 1) := by decide +kernel
theorem dX4_take_1 : decode cX4_take 1 = .ok (.istore 5, 2) := by decide +kernel
theorem dX4_take_3 : decode cX4_take 3 = .ok (.iload 5, 2) := by decide +kernel
theorem dX4_take_5 : decode cX4_take 5 = .ok (.iload 4, 2) := by decide +kernel
theorem dX4_take_7 : decode cX4_take 7 = .ok (.if_icmp .ge 51, 3) := by decide +kernel
theorem dX4_take_10 : decode cX4_take 10 = .ok (.iload 5, 2) := by decide +kernel
theorem dX4_take_12 : decode cX4_take 12 = .ok (.bipush 24, 2) := by decide +kernel
theorem dX4_take_14 : decode cX4_take 14 = .ok (.if_icmp .ge 44, 3) := by decide +kernel
theorem dX4_take_17 : decode cX4_take 17 = .ok (.iload_n 2, 1) := by decide +kernel
theorem dX4_take_18 : decode cX4_take 18 = .ok (.iload_n 3, 1) := by decide +kernel
theorem dX4_take_19 : decode cX4_take 19 = .ok (.if_icmp .lt 8, 3) := by decide +kernel
theorem dX4_take_22 : decode cX4_take 22 = .ok (.iload 5, 2) := by decide +kernel
theorem dX4_take_24 : decode cX4_take 24 = .ok (.goto 10, 3) := by decide +kernel
theorem dX4_take_27 : decode cX4_take 27 = .ok (.iload 4, 2) := by decide +kernel
theorem dX4_take_29 : decode cX4_take 29 = .ok (.iconst 1, 1) := by decide +kernel
theorem dX4_take_30 : decode cX4_take 30 = .ok (.isub, 1) := by decide +kernel
theorem dX4_take_31 : decode cX4_take 31 = .ok (.iload 5, 2) := by decide +kernel
theorem dX4_take_33 : decode cX4_take 33 = .ok (.isub, 1) := by decide +kernel
theorem dX4_take_34 : decode cX4_take 34 = .ok (.istore 6, 2) := by decide +kernel
theorem dX4_take_36 : decode cX4_take 36 = .ok (.aload_n 0, 1) := by decide +kernel
theorem dX4_take_37 : decode cX4_take 37 = .ok (.iload_n 3, 1) := by decide +kernel
theorem dX4_take_38 : decode cX4_take 38 = .ok (.iload 6, 2) := by decide +kernel
theorem dX4_take_40 : decode cX4_take 40 = .ok (.iadd, 1) := by decide +kernel
theorem dX4_take_41 : decode cX4_take 41 = .ok (.aload_n 1, 1) := by decide +kernel
theorem dX4_take_42 : decode cX4_take 42 = .ok (.iload_n 2, 1) := by decide +kernel
theorem dX4_take_43 : decode cX4_take 43 = .ok (.iload 6, 2) := by decide +kernel
theorem dX4_take_45 : decode cX4_take 45 = .ok (.iadd, 1) := by decide +kernel
theorem dX4_take_46 : decode cX4_take 46 = .ok (.invokevirtual 26, 3) := by decide +kernel
theorem dX4_take_49 : decode cX4_take 49 = .ok (.invokevirtual 30, 3) := by decide +kernel
theorem dX4_take_52 : decode cX4_take 52 = .ok (.iinc 5 1, 3) := by decide +kernel
theorem dX4_take_55 : decode cX4_take 55 = .ok (.goto (-52), 3) := by decide +kernel
theorem dX4_take_58 : decode cX4_take 58 = .ok (.return_, 1) := by decide +kernel
theorem dX5_init_0 : decode cX5_init 0 = .ok (.aload_n 0, 1) := by decide +kernel
theorem dX5_init_1 : decode cX5_init 1 = .ok (.invokespecial 3, 3) := by decide +kernel
theorem dX5_init_4 : decode cX5_init 4 = .ok (.aload_n 0, 1) := by decide +kernel
theorem dX5_init_5 : decode cX5_init 5 = .ok (.new 9, 3) := by decide +kernel
theorem dX5_init_8 : decode cX5_init 8 = .ok (.dup, 1) := by decide +kernel
theorem dX5_init_9 : decode cX5_init 9 = .ok (.bipush 60, 2) := by decide +kernel
theorem dX5_init_11 : decode cX5_init 11 = .ok (.invokespecial 11, 3) := by decide +kernel
theorem dX5_init_14 : decode cX5_init 14 = .ok (.putfield 14, 3) := by decide +kernel
theorem dX5_init_17 : decode cX5_init 17 = .ok (.aload_n 0, 1) := by decide +kernel
theorem dX5_init_18 : decode cX5_init 18 = .ok (.bipush 60, 2) := by decide +kernel
theorem dX5_init_20 : decode cX5_init 20 = .ok (.newarray .int, 2) := by decide +kernel
theorem dX5_init_22 : decode cX5_init 22 = .ok (.putfield 20, 3) := by decide +kernel
theorem dX5_init_25 : decode cX5_init 25 = .ok (.aload_n 0, 1) := by decide +kernel
theorem dX5_init_26 : decode cX5_init 26 = .ok (.iload_n 1, 1) := by decide +kernel
theorem dX5_init_27 : decode cX5_init 27 = .ok (.putfield 24, 3) := by decide +kernel
theorem dX5_init_30 : decode cX5_init 30 = .ok (.return_, 1) := by decide +kernel
theorem dX5_clear_0 : decode cX5_clear 0 = .ok (.aload_n 0, 1) := by decide +kernel
theorem dX5_clear_1 : decode cX5_clear 1 = .ok (.getfield 14, 3) := by decide +kernel
theorem dX5_clear_4 : decode cX5_clear 4 = .ok (.invokevirtual 28, 3) := by decide +kernel
theorem dX5_clear_7 : decode cX5_clear 7 = .ok (.return_, 1) := by decide +kernel
theorem dX5_copyFrom_0 : decode cX5_copyFrom 0 = .ok (.aload_n 0, 1) := by decide +kernel
theorem dX5_copyFrom_1 : decode cX5_copyFrom 1 = .ok (.getfield 14, 3) := by decide +kernel
theorem dX5_copyFrom_4 : decode cX5_copyFrom 4 = .ok (.aload_n 1, 1) := by decide +kernel
theorem dX5_copyFrom_5 : decode cX5_copyFrom 5 = .ok (.getfield 14, 3) := by decide +kernel
theorem dX5_copyFrom_8 : decode cX5_copyFrom 8 = .ok (.invokevirtual 31, 3) := by decide +kernel
theorem dX5_copyFrom_11 : decode cX5_copyFrom 11 = .ok (.return_, 1) := by decide +kernel
theorem dX5_gives_0 : decode cX5_gives 0 = .ok (.aload_n 0, 1) := by decide +kernel
theorem dX5_gives_1 : decode cX5_gives 1 = .ok (.getfield 14, 3) := by decide +kernel
theorem dX5_gives_4 : decode cX5_gives 4 = .ok (.invokevirtual 35, 3) := by decide +kernel
theorem dX5_gives_7 : decode cX5_gives 7 = .ok (.ifCond .ne 24, 3) := by decide +kernel
theorem dX5_gives_10 : decode cX5_gives 10 = .ok (.aload_n 0, 1) := by decide +kernel
theorem dX5_gives_11 : decode cX5_gives 11 = .ok (.aload_n 0, 1) := by decide +kernel
theorem dX5_gives_12 : decode cX5_gives 12 = .ok (.getfield 24, 3) := by decide +kernel
theorem dX5_gives_15 : decode cX5_gives 15 = .ok (.ifCond .ne 7, 3) := by decide +kernel
theorem dX5_gives_18 : decode cX5_gives 18 = .ok (.iload_n 1, 1) := by decide +kernel
theorem dX5_gives_19 : decode cX5_gives 19 = .ok (.goto 8, 3) := by decide +kernel
theorem dX5_gives_22 : decode cX5_gives 22 = .ok (.iconst 5, 1) := by decide +kernel
theorem dX5_gives_23 : decode cX5_gives 23 = .ok (.iconst 3, 1) := by decide +kernel
theorem dX5_gives_24 : decode cX5_gives 24 = .ok (.iload_n 1, 1) := by decide +kernel
theorem dX5_gives_25 : decode cX5_gives 25 = .ok (.imul, 1) := by decide +kernel
theorem dX5_gives_26 : decode cX5_gives 26 = .ok (.iadd, 1) := by decide +kernel
theorem dX5_gives_27 : decode cX5_gives 27 = .ok (.invokevirtual 39, 3) := by decide +kernel
theorem dX5_gives_30 : decode cX5_gives 30 = .ok (.ireturn, 1) := by decide +kernel
theorem dX5_gives_31 : decode cX5_gives 31 = .ok (.iconst 0, 1) := by decide +kernel
theorem dX5_gives_32 : decode cX5_gives 32 = .ok (.istore 4, 2) := by decide +kernel
theorem dX5_gives_34 : decode cX5_gives 34 = .ok (.iconst 0, 1) := by decide +kernel
theorem dX5_gives_35 : decode cX5_gives 35 = .ok (.istore 5, 2) := by decide +kernel
theorem dX5_gives_37 : decode cX5_gives 37 = .ok (.iload 5, 2) := by decide +kernel
theorem dX5_gives_39 : decode cX5_gives 39 = .ok (.aload_n 0, 1) := by decide +kernel
theorem dX5_gives_40 : decode cX5_gives 40 = .ok (.getfield 14, 3) := by decide +kernel
theorem dX5_gives_43 : decode cX5_gives 43 = .ok (.invokevirtual 35, 3) := by decide +kernel
theorem dX5_gives_46 : decode cX5_gives 46 = .ok (.if_icmp .ge 184, 3) := by decide +kernel
theorem dX5_gives_49 : decode cX5_gives 49 = .ok (.aload_n 0, 1) := by decide +kernel
theorem dX5_gives_50 : decode cX5_gives 50 = .ok (.getfield 14, 3) := by decide +kernel
theorem dX5_gives_53 : decode cX5_gives 53 = .ok (.iload 5, 2) := by decide +kernel
theorem dX5_gives_55 : decode cX5_gives 55 = .ok (.invokevirtual 43, 3) := by decide +kernel
theorem dX5_gives_58 : decode cX5_gives 58 = .ok (.istore 6, 2) := by decide +kernel
theorem dX5_gives_60 : decode cX5_gives 60 = .ok (.iload 6, 2) := by decide +kernel
theorem dX5_gives_62 : decode cX5_gives 62 = .ok (.bipush (-3), 2) := by decide +kernel
theorem dX5_gives_64 : decode cX5_gives 64 = .ok (.if_icmp .lt 58, 3) := by decide +kernel
theorem dX5_gives_67 : decode cX5_gives 67 = .ok (.iload 4, 2) := by decide +kernel
theorem dX5_gives_69 : decode cX5_gives 69 = .ok (.aload_n 0, 1) := by decide +kernel
theorem dX5_gives_70 : decode cX5_gives 70 = .ok (.getfield 20, 3) := by decide +kernel
theorem dX5_gives_73 : decode cX5_gives 73 = .ok (.arraylength, 1) := by decide +kernel
theorem dX5_gives_74 : decode cX5_gives 74 = .ok (.if_icmp .ge 48, 3) := by decide +kernel
theorem dX5_gives_77 : decode cX5_gives 77 = .ok (.aload_n 0, 1) := by decide +kernel
theorem dX5_gives_78 : decode cX5_gives 78 = .ok (.getfield 20, 3) := by decide +kernel
theorem dX5_gives_81 : decode cX5_gives 81 = .ok (.iload 4, 2) := by decide +kernel
theorem dX5_gives_83 : decode cX5_gives 83 = .ok (.iload 6, 2) := by decide +kernel
theorem dX5_gives_85 : decode cX5_gives 85 = .ok (.ifCond .lt 8, 3) := by decide +kernel
theorem dX5_gives_88 : decode cX5_gives 88 = .ok (.iload 6, 2) := by decide +kernel
theorem dX5_gives_90 : decode cX5_gives 90 = .ok (.goto 25, 3) := by decide +kernel
theorem dX5_gives_93 : decode cX5_gives 93 = .ok (.iload 6, 2) := by decide +kernel
theorem dX5_gives_95 : decode cX5_gives 95 = .ok (.iconst (-1), 1) := by decide +kernel
theorem dX5_gives_96 : decode cX5_gives 96 = .ok (.if_icmp .ne 7, 3) := by decide +kernel
theorem dX5_gives_99 : decode cX5_gives 99 = .ok (.iload_n 1, 1) := by decide +kernel
theorem dX5_gives_100 : decode cX5_gives 100 = .ok (.goto 15, 3) := by decide +kernel
theorem dX5_gives_103 : decode cX5_gives 103 = .ok (.iload 6, 2) := by decide +kernel
theorem dX5_gives_105 : decode cX5_gives 105 = .ok (.bipush (-2), 2) := by decide +kernel
theorem dX5_gives_107 : decode cX5_gives 107 = .ok (.if_icmp .ne 7, 3) := by decide +kernel
theorem dX5_gives_110 : decode cX5_gives 110 = .ok (.iload_n 2, 1) := by decide +kernel
theorem dX5_gives_111 : decode cX5_gives 111 = .ok (.goto 4, 3) := by decide +kernel
theorem dX5_gives_114 : decode cX5_gives 114 = .ok (.iload_n 3, 1) := by decide +kernel
theorem dX5_gives_115 : decode cX5_gives 115 = .ok (.iastore, 1) := by decide +kernel
theorem dX5_gives_116 : decode cX5_gives 116 = .ok (.iinc 4 1, 3) := by decide +kernel
theorem dX5_gives_119 : decode cX5_gives 119 = .ok (.goto 105, 3) := by decide +kernel
theorem dX5_gives_122 : decode cX5_gives 122 = .ok (.iload 6, 2) := by decide +kernel
theorem dX5_gives_124 : decode cX5_gives 124 = .ok (.bipush (-33), 2) := by decide +kernel
theorem dX5_gives_126 : decode cX5_gives 126 = .ok (.if_icmp .ne 48, 3) := by decide +kernel
theorem dX5_gives_129 : decode cX5_gives 129 = .ok (.iload 4, 2) := by decide +kernel
theorem dX5_gives_131 : decode cX5_gives 131 = .ok (.iconst 1, 1) := by decide +kernel
theorem dX5_gives_132 : decode cX5_gives 132 = .ok (.if_icmp .lt 42, 3) := by decide +kernel
theorem dX5_gives_135 : decode cX5_gives 135 = .ok (.iload 4, 2) := by decide +kernel
theorem dX5_gives_137 : decode cX5_gives 137 = .ok (.aload_n 0, 1) := by decide +kernel
theorem dX5_gives_138 : decode cX5_gives 138 = .ok (.getfield 20, 3) := by decide +kernel
theorem dX5_gives_141 : decode cX5_gives 141 = .ok (.arraylength, 1) := by decide +kernel
theorem dX5_gives_142 : decode cX5_gives 142 = .ok (.if_icmp .gt 32, 3) := by decide +kernel
theorem dX5_gives_145 : decode cX5_gives 145 = .ok (.aload_n 0, 1) := by decide +kernel
theorem dX5_gives_146 : decode cX5_gives 146 = .ok (.getfield 20, 3) := by decide +kernel
theorem dX5_gives_149 : decode cX5_gives 149 = .ok (.iload 4, 2) := by decide +kernel
theorem dX5_gives_151 : decode cX5_gives 151 = .ok (.iconst 1, 1) := by decide +kernel
theorem dX5_gives_152 : decode cX5_gives 152 = .ok (.isub, 1) := by decide +kernel
theorem dX5_gives_153 : decode cX5_gives 153 = .ok (.aload_n 0, 1) := by decide +kernel
theorem dX5_gives_154 : decode cX5_gives 154 = .ok (.getfield 20, 3) := by decide +kernel
theorem dX5_gives_157 : decode cX5_gives 157 = .ok (.iload 4, 2) := by decide +kernel
theorem dX5_gives_159 : decode cX5_gives 159 = .ok (.iconst 1, 1) := by decide +kernel
theorem dX5_gives_160 : decode cX5_gives 160 = .ok (.isub, 1) := by decide +kernel
theorem dX5_gives_161 : decode cX5_gives 161 = .ok (.iaload, 1) := by decide +kernel
theorem dX5_gives_162 : decode cX5_gives 162 = .ok (.ifCond .ne 7, 3) := by decide +kernel
theorem dX5_gives_165 : decode cX5_gives 165 = .ok (.iconst 1, 1) := by decide +kernel
theorem dX5_gives_166 : decode cX5_gives 166 = .ok (.goto 4, 3) := by decide +kernel
theorem dX5_gives_169 : decode cX5_gives 169 = .ok (.iconst 0, 1) := by decide +kernel
theorem dX5_gives_170 : decode cX5_gives 170 = .ok (.iastore, 1) := by decide +kernel
theorem dX5_gives_171 : decode cX5_gives 171 = .ok (.goto 53, 3) := by decide +kernel
theorem dX5_gives_174 : decode cX5_gives 174 = .ok (.iload 4, 2) := by decide +kernel
theorem dX5_gives_176 : decode cX5_gives 176 = .ok (.iconst 2, 1) := by decide +kernel
theorem dX5_gives_177 : decode cX5_gives 177 = .ok (.if_icmp .lt 47, 3) := by decide +kernel
theorem dX5_gives_180 : decode cX5_gives 180 = .ok (.iload 4, 2) := by decide +kernel
theorem dX5_gives_182 : decode cX5_gives 182 = .ok (.aload_n 0, 1) := by decide +kernel
theorem dX5_gives_183 : decode cX5_gives 183 = .ok (.getfield 20, 3) := by decide +kernel
theorem dX5_gives_186 : decode cX5_gives 186 = .ok (.arraylength, 1) := by decide +kernel
theorem dX5_gives_187 : decode cX5_gives 187 = .ok (.if_icmp .gt 37, 3) := by decide +kernel
theorem dX5_gives_190 : decode cX5_gives 190 = .ok (.iinc 4 (-1), 3) := by decide +kernel
theorem dX5_gives_193 : decode cX5_gives 193 = .ok (.aload_n 0, 1) := by decide +kernel
theorem dX5_gives_194 : decode cX5_gives 194 = .ok (.getfield 20, 3) := by decide +kernel
theorem dX5_gives_197 : decode cX5_gives 197 = .ok (.iload 4, 2) := by decide +kernel
theorem dX5_gives_199 : decode cX5_gives 199 = .ok (.iconst 1, 1) := by decide +kernel
theorem dX5_gives_200 : decode cX5_gives 200 = .ok (.isub, 1) := by decide +kernel
theorem dX5_gives_201 : decode cX5_gives 201 = .ok (.iload 6, 2) := by decide +kernel
theorem dX5_gives_203 : decode cX5_gives 203 = .ok (.ineg, 1) := by decide +kernel
theorem dX5_gives_204 : decode cX5_gives 204 = .ok (.aload_n 0, 1) := by decide +kernel
theorem dX5_gives_205 : decode cX5_gives 205 = .ok (.getfield 20, 3) := by decide +kernel
theorem dX5_gives_208 : decode cX5_gives 208 = .ok (.iload 4, 2) := by decide +kernel
theorem dX5_gives_210 : decode cX5_gives 210 = .ok (.iconst 1, 1) := by decide +kernel
theorem dX5_gives_211 : decode cX5_gives 211 = .ok (.isub, 1) := by decide +kernel
theorem dX5_gives_212 : decode cX5_gives 212 = .ok (.iaload, 1) := by decide +kernel
theorem dX5_gives_213 : decode cX5_gives 213 = .ok (.aload_n 0, 1) := by decide +kernel
theorem dX5_gives_214 : decode cX5_gives 214 = .ok (.getfield 20, 3) := by decide +kernel
theorem dX5_gives_217 : decode cX5_gives 217 = .ok (.iload 4, 2) := by decide +kernel
theorem dX5_gives_219 : decode cX5_gives 219 = .ok (.iaload, 1) := by decide +kernel
theorem dX5_gives_220 : decode cX5_gives 220 = .ok (.invokestatic 46, 3) := by decide +kernel
theorem dX5_gives_223 : decode cX5_gives 223 = .ok (.iastore, 1) := by decide +kernel
theorem dX5_gives_224 : decode cX5_gives 224 = .ok (.iinc 5 1, 3) := by decide +kernel
theorem dX5_gives_227 : decode cX5_gives 227 = .ok (.goto (-190), 3) := by decide +kernel
theorem dX5_gives_230 : decode cX5_gives 230 = .ok (.aload_n 0, 1) := by decide +kernel
theorem dX5_gives_231 : decode cX5_gives 231 = .ok (.aload_n 0, 1) := by decide +kernel
theorem dX5_gives_232 : decode cX5_gives 232 = .ok (.getfield 20, 3) := by decide +kernel
theorem dX5_gives_235 : decode cX5_gives 235 = .ok (.arraylength, 1) := by decide +kernel
theorem dX5_gives_236 : decode cX5_gives 236 = .ok (.ifCond .le 12, 3) := by decide +kernel
theorem dX5_gives_239 : decode cX5_gives 239 = .ok (.aload_n 0, 1) := by decide +kernel
theorem dX5_gives_240 : decode cX5_gives 240 = .ok (.getfield 20, 3) := by decide +kernel
theorem dX5_gives_243 : decode cX5_gives 243 = .ok (.iconst 0, 1) := by decide +kernel
theorem dX5_gives_244 : decode cX5_gives 244 = .ok (.iaload, 1) := by decide +kernel
theorem dX5_gives_245 : decode cX5_gives 245 = .ok (.goto 4, 3) := by decide +kernel
theorem dX5_gives_248 : decode cX5_gives 248 = .ok (.iconst 0, 1) := by decide +kernel
theorem dX5_gives_249 : decode cX5_gives 249 = .ok (.invokevirtual 39, 3) := by decide +kernel
theorem dX5_gives_252 : decode cX5_gives 252 = .ok (.ireturn, 1) := by decide +kernel
theorem dX5_held_0 : decode cX5_held 0 = .ok (.aload_n 0, 1) := by decide +kernel
theorem dX5_held_1 : decode cX5_held 1 = .ok (.getfield 24, 3) := by decide +kernel
theorem dX5_held_4 : decode cX5_held 4 = .ok (.ifCond .ne 8, 3) := by decide +kernel
theorem dX5_held_7 : decode cX5_held 7 = .ok (.bipush 99, 2) := by decide +kernel
theorem dX5_held_9 : decode cX5_held 9 = .ok (.goto 6, 3) := by decide +kernel
theorem dX5_held_12 : decode cX5_held 12 = .ok (.sipush 199, 3) := by decide +kernel
theorem dX5_held_15 : decode cX5_held 15 = .ok (.istore_n 2, 1) := by decide +kernel
theorem dX5_held_16 : decode cX5_held 16 = .ok (.iload_n 1, 1) := by decide +kernel
theorem dX5_held_17 : decode cX5_held 17 = .ok (.ifCond .ge 7, 3) := by decide +kernel
theorem dX5_held_20 : decode cX5_held 20 = .ok (.iconst 0, 1) := by decide +kernel
theorem dX5_held_21 : decode cX5_held 21 = .ok (.goto 13, 3) := by decide +kernel
theorem dX5_held_24 : decode cX5_held 24 = .ok (.iload_n 1, 1) := by decide +kernel
theorem dX5_held_25 : decode cX5_held 25 = .ok (.iload_n 2, 1) := by decide +kernel
theorem dX5_held_26 : decode cX5_held 26 = .ok (.if_icmp .le 7, 3) := by decide +kernel
theorem dX5_held_29 : decode cX5_held 29 = .ok (.iload_n 2, 1) := by decide +kernel
theorem dX5_held_30 : decode cX5_held 30 = .ok (.goto 4, 3) := by decide +kernel
theorem dX5_held_33 : decode cX5_held 33 = .ok (.iload_n 1, 1) := by decide +kernel
theorem dX5_held_34 : decode cX5_held 34 = .ok (.ireturn, 1) := by decide +kernel
theorem dX5_joined_0 : decode cX5_joined 0 = .ok (.iload_n 0, 1) := by decide +kernel
theorem dX5_joined_1 : decode cX5_joined 1 = .ok (.lookupswitch 188 #[(37, 176), (38, 105), (42, 160), (43, 152), (45, 156), (47, 164), (60, 119), (61, 130), (62, 141), (124, 91)], 91) := by decide +kernel
theorem dX5_joined_92 : decode cX5_joined 92 = .ok (.iload_n 1, 1) := by decide +kernel
theorem dX5_joined_93 : decode cX5_joined 93 = .ok (.ifCond .ne 7, 3) := by decide +kernel
theorem dX5_joined_96 : decode cX5_joined 96 = .ok (.iload_n 2, 1) := by decide +kernel
theorem dX5_joined_97 : decode cX5_joined 97 = .ok (.ifCond .eq 7, 3) := by decide +kernel
theorem dX5_joined_100 : decode cX5_joined 100 = .ok (.iconst 1, 1) := by decide +kernel
theorem dX5_joined_101 : decode cX5_joined 101 = .ok (.goto 4, 3) := by decide +kernel
theorem dX5_joined_104 : decode cX5_joined 104 = .ok (.iconst 0, 1) := by decide +kernel
theorem dX5_joined_105 : decode cX5_joined 105 = .ok (.ireturn, 1) := by decide +kernel
theorem dX5_joined_106 : decode cX5_joined 106 = .ok (.iload_n 1, 1) := by decide +kernel
theorem dX5_joined_107 : decode cX5_joined 107 = .ok (.ifCond .eq 11, 3) := by decide +kernel
theorem dX5_joined_110 : decode cX5_joined 110 = .ok (.iload_n 2, 1) := by decide +kernel
theorem dX5_joined_111 : decode cX5_joined 111 = .ok (.ifCond .eq 7, 3) := by decide +kernel
theorem dX5_joined_114 : decode cX5_joined 114 = .ok (.iconst 1, 1) := by decide +kernel
theorem dX5_joined_115 : decode cX5_joined 115 = .ok (.goto 4, 3) := by decide +kernel
theorem dX5_joined_118 : decode cX5_joined 118 = .ok (.iconst 0, 1) := by decide +kernel
theorem dX5_joined_119 : decode cX5_joined 119 = .ok (.ireturn, 1) := by decide +kernel
theorem dX5_joined_120 : decode cX5_joined 120 = .ok (.iload_n 1, 1) := by decide +kernel
theorem dX5_joined_121 : decode cX5_joined 121 = .ok (.iload_n 2, 1) := by decide +kernel
theorem dX5_joined_122 : decode cX5_joined 122 = .ok (.if_icmp .ge 7, 3) := by decide +kernel
theorem dX5_joined_125 : decode cX5_joined 125 = .ok (.iconst 1, 1) := by decide +kernel
theorem dX5_joined_126 : decode cX5_joined 126 = .ok (.goto 4, 3) := by decide +kernel
theorem dX5_joined_129 : decode cX5_joined 129 = .ok (.iconst 0, 1) := by decide +kernel
theorem dX5_joined_130 : decode cX5_joined 130 = .ok (.ireturn, 1) := by decide +kernel
theorem dX5_joined_131 : decode cX5_joined 131 = .ok (.iload_n 1, 1) := by decide +kernel
theorem dX5_joined_132 : decode cX5_joined 132 = .ok (.iload_n 2, 1) := by decide +kernel
theorem dX5_joined_133 : decode cX5_joined 133 = .ok (.if_icmp .ne 7, 3) := by decide +kernel
theorem dX5_joined_136 : decode cX5_joined 136 = .ok (.iconst 1, 1) := by decide +kernel
theorem dX5_joined_137 : decode cX5_joined 137 = .ok (.goto 4, 3) := by decide +kernel
theorem dX5_joined_140 : decode cX5_joined 140 = .ok (.iconst 0, 1) := by decide +kernel
theorem dX5_joined_141 : decode cX5_joined 141 = .ok (.ireturn, 1) := by decide +kernel
theorem dX5_joined_142 : decode cX5_joined 142 = .ok (.iload_n 1, 1) := by decide +kernel
theorem dX5_joined_143 : decode cX5_joined 143 = .ok (.iload_n 2, 1) := by decide +kernel
theorem dX5_joined_144 : decode cX5_joined 144 = .ok (.if_icmp .le 7, 3) := by decide +kernel
theorem dX5_joined_147 : decode cX5_joined 147 = .ok (.iconst 1, 1) := by decide +kernel
theorem dX5_joined_148 : decode cX5_joined 148 = .ok (.goto 4, 3) := by decide +kernel
theorem dX5_joined_151 : decode cX5_joined 151 = .ok (.iconst 0, 1) := by decide +kernel
theorem dX5_joined_152 : decode cX5_joined 152 = .ok (.ireturn, 1) := by decide +kernel
theorem dX5_joined_153 : decode cX5_joined 153 = .ok (.iload_n 1, 1) := by decide +kernel
theorem dX5_joined_154 : decode cX5_joined 154 = .ok (.iload_n 2, 1) := by decide +kernel
theorem dX5_joined_155 : decode cX5_joined 155 = .ok (.iadd, 1) := by decide +kernel
theorem dX5_joined_156 : decode cX5_joined 156 = .ok (.ireturn, 1) := by decide +kernel
theorem dX5_joined_157 : decode cX5_joined 157 = .ok (.iload_n 1, 1) := by decide +kernel
theorem dX5_joined_158 : decode cX5_joined 158 = .ok (.iload_n 2, 1) := by decide +kernel
theorem dX5_joined_159 : decode cX5_joined 159 = .ok (.isub, 1) := by decide +kernel
theorem dX5_joined_160 : decode cX5_joined 160 = .ok (.ireturn, 1) := by decide +kernel
theorem dX5_joined_161 : decode cX5_joined 161 = .ok (.iload_n 1, 1) := by decide +kernel
theorem dX5_joined_162 : decode cX5_joined 162 = .ok (.iload_n 2, 1) := by decide +kernel
theorem dX5_joined_163 : decode cX5_joined 163 = .ok (.imul, 1) := by decide +kernel
theorem dX5_joined_164 : decode cX5_joined 164 = .ok (.ireturn, 1) := by decide +kernel
theorem dX5_joined_165 : decode cX5_joined 165 = .ok (.iload_n 2, 1) := by decide +kernel
theorem dX5_joined_166 : decode cX5_joined 166 = .ok (.ifCond .ne 7, 3) := by decide +kernel
theorem dX5_joined_169 : decode cX5_joined 169 = .ok (.iconst 0, 1) := by decide +kernel
theorem dX5_joined_170 : decode cX5_joined 170 = .ok (.goto 6, 3) := by decide +kernel
theorem dX5_joined_173 : decode cX5_joined 173 = .ok (.iload_n 1, 1) := by decide +kernel
theorem dX5_joined_174 : decode cX5_joined 174 = .ok (.iload_n 2, 1) := by decide +kernel
theorem dX5_joined_175 : decode cX5_joined 175 = .ok (.idiv, 1) := by decide +kernel
theorem dX5_joined_176 : decode cX5_joined 176 = .ok (.ireturn, 1) := by decide +kernel
theorem dX5_joined_177 : decode cX5_joined 177 = .ok (.iload_n 2, 1) := by decide +kernel
theorem dX5_joined_178 : decode cX5_joined 178 = .ok (.ifCond .ne 7, 3) := by decide +kernel
theorem dX5_joined_181 : decode cX5_joined 181 = .ok (.iconst 0, 1) := by decide +kernel
theorem dX5_joined_182 : decode cX5_joined 182 = .ok (.goto 6, 3) := by decide +kernel
theorem dX5_joined_185 : decode cX5_joined 185 = .ok (.iload_n 1, 1) := by decide +kernel
theorem dX5_joined_186 : decode cX5_joined 186 = .ok (.iload_n 2, 1) := by decide +kernel
theorem dX5_joined_187 : decode cX5_joined 187 = .ok (.irem, 1) := by decide +kernel
theorem dX5_joined_188 : decode cX5_joined 188 = .ok (.ireturn, 1) := by decide +kernel
theorem dX5_joined_189 : decode cX5_joined 189 = .ok (.iconst 0, 1) := by decide +kernel
theorem dX5_joined_190 : decode cX5_joined 190 = .ok (.ireturn, 1) := by decide +kernel
theorem dX6_init_0 : decode cX6_init 0 = .ok (.aload_n 0, 1) := by decide +kernel
theorem dX6_init_1 : decode cX6_init 1 = .ok (.invokespecial 3, 3) := by decide +kernel
theorem dX6_init_4 : decode cX6_init 4 = .ok (.aload_n 0, 1) := by decide +kernel
theorem dX6_init_5 : decode cX6_init 5 = .ok (.bipush 9, 2) := by decide +kernel
theorem dX6_init_7 : decode cX6_init 7 = .ok (.anewarray 9, 3) := by decide +kernel
theorem dX6_init_10 : decode cX6_init 10 = .ok (.putfield 11, 3) := by decide +kernel
theorem dX6_init_13 : decode cX6_init 13 = .ok (.aload_n 0, 1) := by decide +kernel
theorem dX6_init_14 : decode cX6_init 14 = .ok (.new 17, 3) := by decide +kernel
theorem dX6_init_17 : decode cX6_init 17 = .ok (.dup, 1) := by decide +kernel
theorem dX6_init_18 : decode cX6_init 18 = .ok (.iconst 0, 1) := by decide +kernel
theorem dX6_init_19 : decode cX6_init 19 = .ok (.invokespecial 19, 3) := by decide +kernel
theorem dX6_init_22 : decode cX6_init 22 = .ok (.putfield 22, 3) := by decide +kernel
theorem dX6_init_25 : decode cX6_init 25 = .ok (.aload_n 0, 1) := by decide +kernel
theorem dX6_init_26 : decode cX6_init 26 = .ok (.new 17, 3) := by decide +kernel
theorem dX6_init_29 : decode cX6_init 29 = .ok (.dup, 1) := by decide +kernel
theorem dX6_init_30 : decode cX6_init 30 = .ok (.iconst 1, 1) := by decide +kernel
theorem dX6_init_31 : decode cX6_init 31 = .ok (.invokespecial 19, 3) := by decide +kernel
theorem dX6_init_34 : decode cX6_init 34 = .ok (.putfield 26, 3) := by decide +kernel
theorem dX6_init_37 : decode cX6_init 37 = .ok (.aload_n 0, 1) := by decide +kernel
theorem dX6_init_38 : decode cX6_init 38 = .ok (.iconst 0, 1) := by decide +kernel
theorem dX6_init_39 : decode cX6_init 39 = .ok (.putfield 29, 3) := by decide +kernel
theorem dX6_init_42 : decode cX6_init 42 = .ok (.aload_n 0, 1) := by decide +kernel
theorem dX6_init_43 : decode cX6_init 43 = .ok (.iconst 0, 1) := by decide +kernel
theorem dX6_init_44 : decode cX6_init 44 = .ok (.putfield 33, 3) := by decide +kernel
theorem dX6_init_47 : decode cX6_init 47 = .ok (.aload_n 0, 1) := by decide +kernel
theorem dX6_init_48 : decode cX6_init 48 = .ok (.iconst 0, 1) := by decide +kernel
theorem dX6_init_49 : decode cX6_init 49 = .ok (.putfield 36, 3) := by decide +kernel
theorem dX6_init_52 : decode cX6_init 52 = .ok (.aload_n 0, 1) := by decide +kernel
theorem dX6_init_53 : decode cX6_init 53 = .ok (.iconst 0, 1) := by decide +kernel
theorem dX6_init_54 : decode cX6_init 54 = .ok (.putfield 39, 3) := by decide +kernel
theorem dX6_init_57 : decode cX6_init 57 = .ok (.aload_n 0, 1) := by decide +kernel
theorem dX6_init_58 : decode cX6_init 58 = .ok (.iconst 1, 1) := by decide +kernel
theorem dX6_init_59 : decode cX6_init 59 = .ok (.putfield 42, 3) := by decide +kernel
theorem dX6_init_62 : decode cX6_init 62 = .ok (.iconst 0, 1) := by decide +kernel
theorem dX6_init_63 : decode cX6_init 63 = .ok (.istore_n 1, 1) := by decide +kernel
theorem dX6_init_64 : decode cX6_init 64 = .ok (.iload_n 1, 1) := by decide +kernel
theorem dX6_init_65 : decode cX6_init 65 = .ok (.aload_n 0, 1) := by decide +kernel
theorem dX6_init_66 : decode cX6_init 66 = .ok (.getfield 11, 3) := by decide +kernel
theorem dX6_init_69 : decode cX6_init 69 = .ok (.arraylength, 1) := by decide +kernel
theorem dX6_init_70 : decode cX6_init 70 = .ok (.if_icmp .ge 22, 3) := by decide +kernel
theorem dX6_init_73 : decode cX6_init 73 = .ok (.aload_n 0, 1) := by decide +kernel
theorem dX6_init_74 : decode cX6_init 74 = .ok (.getfield 11, 3) := by decide +kernel
theorem dX6_init_77 : decode cX6_init 77 = .ok (.iload_n 1, 1) := by decide +kernel
theorem dX6_init_78 : decode cX6_init 78 = .ok (.new 9, 3) := by decide +kernel
theorem dX6_init_81 : decode cX6_init 81 = .ok (.dup, 1) := by decide +kernel
theorem dX6_init_82 : decode cX6_init 82 = .ok (.invokespecial 45, 3) := by decide +kernel
theorem dX6_init_85 : decode cX6_init 85 = .ok (.aastore, 1) := by decide +kernel
theorem dX6_init_86 : decode cX6_init 86 = .ok (.iinc 1 1, 3) := by decide +kernel
theorem dX6_init_89 : decode cX6_init 89 = .ok (.goto (-25), 3) := by decide +kernel
theorem dX6_init_92 : decode cX6_init 92 = .ok (.return_, 1) := by decide +kernel
theorem dX6_copyFrom_0 : decode cX6_copyFrom 0 = .ok (.iconst 0, 1) := by decide +kernel
theorem dX6_copyFrom_1 : decode cX6_copyFrom 1 = .ok (.istore_n 2, 1) := by decide +kernel
theorem dX6_copyFrom_2 : decode cX6_copyFrom 2 = .ok (.iload_n 2, 1) := by decide +kernel
theorem dX6_copyFrom_3 : decode cX6_copyFrom 3 = .ok (.aload_n 0, 1) := by decide +kernel
theorem dX6_copyFrom_4 : decode cX6_copyFrom 4 = .ok (.getfield 11, 3) := by decide +kernel
theorem dX6_copyFrom_7 : decode cX6_copyFrom 7 = .ok (.arraylength, 1) := by decide +kernel
theorem dX6_copyFrom_8 : decode cX6_copyFrom 8 = .ok (.if_icmp .ge 33, 3) := by decide +kernel
theorem dX6_copyFrom_11 : decode cX6_copyFrom 11 = .ok (.iload_n 2, 1) := by decide +kernel
theorem dX6_copyFrom_12 : decode cX6_copyFrom 12 = .ok (.aload_n 1, 1) := by decide +kernel
theorem dX6_copyFrom_13 : decode cX6_copyFrom 13 = .ok (.getfield 11, 3) := by decide +kernel
theorem dX6_copyFrom_16 : decode cX6_copyFrom 16 = .ok (.arraylength, 1) := by decide +kernel
theorem dX6_copyFrom_17 : decode cX6_copyFrom 17 = .ok (.if_icmp .ge 24, 3) := by decide +kernel
theorem dX6_copyFrom_20 : decode cX6_copyFrom 20 = .ok (.aload_n 0, 1) := by decide +kernel
theorem dX6_copyFrom_21 : decode cX6_copyFrom 21 = .ok (.getfield 11, 3) := by decide +kernel
theorem dX6_copyFrom_24 : decode cX6_copyFrom 24 = .ok (.iload_n 2, 1) := by decide +kernel
theorem dX6_copyFrom_25 : decode cX6_copyFrom 25 = .ok (.aaload, 1) := by decide +kernel
theorem dX6_copyFrom_26 : decode cX6_copyFrom 26 = .ok (.aload_n 1, 1) := by decide +kernel
theorem dX6_copyFrom_27 : decode cX6_copyFrom 27 = .ok (.getfield 11, 3) := by decide +kernel
theorem dX6_copyFrom_30 : decode cX6_copyFrom 30 = .ok (.iload_n 2, 1) := by decide +kernel
theorem dX6_copyFrom_31 : decode cX6_copyFrom 31 = .ok (.aaload, 1) := by decide +kernel
theorem dX6_copyFrom_32 : decode cX6_copyFrom 32 = .ok (.invokevirtual 46, 3) := by decide +kernel
theorem dX6_copyFrom_35 : decode cX6_copyFrom 35 = .ok (.iinc 2 1, 3) := by decide +kernel
theorem dX6_copyFrom_38 : decode cX6_copyFrom 38 = .ok (.goto (-36), 3) := by decide +kernel
theorem dX6_copyFrom_41 : decode cX6_copyFrom 41 = .ok (.aload_n 0, 1) := by decide +kernel
theorem dX6_copyFrom_42 : decode cX6_copyFrom 42 = .ok (.getfield 22, 3) := by decide +kernel
theorem dX6_copyFrom_45 : decode cX6_copyFrom 45 = .ok (.aload_n 1, 1) := by decide +kernel
theorem dX6_copyFrom_46 : decode cX6_copyFrom 46 = .ok (.getfield 22, 3) := by decide +kernel
theorem dX6_copyFrom_49 : decode cX6_copyFrom 49 = .ok (.invokevirtual 50, 3) := by decide +kernel
theorem dX6_copyFrom_52 : decode cX6_copyFrom 52 = .ok (.aload_n 0, 1) := by decide +kernel
theorem dX6_copyFrom_53 : decode cX6_copyFrom 53 = .ok (.getfield 26, 3) := by decide +kernel
theorem dX6_copyFrom_56 : decode cX6_copyFrom 56 = .ok (.aload_n 1, 1) := by decide +kernel
theorem dX6_copyFrom_57 : decode cX6_copyFrom 57 = .ok (.getfield 26, 3) := by decide +kernel
theorem dX6_copyFrom_60 : decode cX6_copyFrom 60 = .ok (.invokevirtual 50, 3) := by decide +kernel
theorem dX6_copyFrom_63 : decode cX6_copyFrom 63 = .ok (.aload_n 0, 1) := by decide +kernel
theorem dX6_copyFrom_64 : decode cX6_copyFrom 64 = .ok (.aload_n 1, 1) := by decide +kernel
theorem dX6_copyFrom_65 : decode cX6_copyFrom 65 = .ok (.getfield 29, 3) := by decide +kernel
theorem dX6_copyFrom_68 : decode cX6_copyFrom 68 = .ok (.putfield 29, 3) := by decide +kernel
theorem dX6_copyFrom_71 : decode cX6_copyFrom 71 = .ok (.aload_n 0, 1) := by decide +kernel
theorem dX6_copyFrom_72 : decode cX6_copyFrom 72 = .ok (.aload_n 1, 1) := by decide +kernel
theorem dX6_copyFrom_73 : decode cX6_copyFrom 73 = .ok (.getfield 33, 3) := by decide +kernel
theorem dX6_copyFrom_76 : decode cX6_copyFrom 76 = .ok (.putfield 33, 3) := by decide +kernel
theorem dX6_copyFrom_79 : decode cX6_copyFrom 79 = .ok (.aload_n 0, 1) := by decide +kernel
theorem dX6_copyFrom_80 : decode cX6_copyFrom 80 = .ok (.aload_n 1, 1) := by decide +kernel
theorem dX6_copyFrom_81 : decode cX6_copyFrom 81 = .ok (.getfield 36, 3) := by decide +kernel
theorem dX6_copyFrom_84 : decode cX6_copyFrom 84 = .ok (.putfield 36, 3) := by decide +kernel
theorem dX6_copyFrom_87 : decode cX6_copyFrom 87 = .ok (.aload_n 0, 1) := by decide +kernel
theorem dX6_copyFrom_88 : decode cX6_copyFrom 88 = .ok (.aload_n 1, 1) := by decide +kernel
theorem dX6_copyFrom_89 : decode cX6_copyFrom 89 = .ok (.getfield 39, 3) := by decide +kernel
theorem dX6_copyFrom_92 : decode cX6_copyFrom 92 = .ok (.putfield 39, 3) := by decide +kernel
theorem dX6_copyFrom_95 : decode cX6_copyFrom 95 = .ok (.aload_n 0, 1) := by decide +kernel
theorem dX6_copyFrom_96 : decode cX6_copyFrom 96 = .ok (.aload_n 1, 1) := by decide +kernel
theorem dX6_copyFrom_97 : decode cX6_copyFrom 97 = .ok (.getfield 42, 3) := by decide +kernel
theorem dX6_copyFrom_100 : decode cX6_copyFrom 100 = .ok (.putfield 42, 3) := by decide +kernel
theorem dX6_copyFrom_103 : decode cX6_copyFrom 103 = .ok (.return_, 1) := by decide +kernel
theorem dX6_isFull_0 : decode cX6_isFull 0 = .ok (.aload_n 0, 1) := by decide +kernel
theorem dX6_isFull_1 : decode cX6_isFull 1 = .ok (.getfield 29, 3) := by decide +kernel
theorem dX6_isFull_4 : decode cX6_isFull 4 = .ok (.aload_n 0, 1) := by decide +kernel
theorem dX6_isFull_5 : decode cX6_isFull 5 = .ok (.getfield 11, 3) := by decide +kernel
theorem dX6_isFull_8 : decode cX6_isFull 8 = .ok (.arraylength, 1) := by decide +kernel
theorem dX6_isFull_9 : decode cX6_isFull 9 = .ok (.if_icmp .lt 7, 3) := by decide +kernel
theorem dX6_isFull_12 : decode cX6_isFull 12 = .ok (.iconst 1, 1) := by decide +kernel
theorem dX6_isFull_13 : decode cX6_isFull 13 = .ok (.goto 4, 3) := by decide +kernel
theorem dX6_isFull_16 : decode cX6_isFull 16 = .ok (.iconst 0, 1) := by decide +kernel
theorem dX6_isFull_17 : decode cX6_isFull 17 = .ok (.ireturn, 1) := by decide +kernel
theorem dX6_at_0 : decode cX6_at 0 = .ok (.iload_n 1, 1) := by decide +kernel
theorem dX6_at_1 : decode cX6_at 1 = .ok (.ifCond .lt 29, 3) := by decide +kernel
theorem dX6_at_4 : decode cX6_at 4 = .ok (.iload_n 1, 1) := by decide +kernel
theorem dX6_at_5 : decode cX6_at 5 = .ok (.aload_n 0, 1) := by decide +kernel
theorem dX6_at_6 : decode cX6_at 6 = .ok (.getfield 29, 3) := by decide +kernel
theorem dX6_at_9 : decode cX6_at 9 = .ok (.if_icmp .ge 21, 3) := by decide +kernel
theorem dX6_at_12 : decode cX6_at 12 = .ok (.iload_n 1, 1) := by decide +kernel
theorem dX6_at_13 : decode cX6_at 13 = .ok (.aload_n 0, 1) := by decide +kernel
theorem dX6_at_14 : decode cX6_at 14 = .ok (.getfield 11, 3) := by decide +kernel
theorem dX6_at_17 : decode cX6_at 17 = .ok (.arraylength, 1) := by decide +kernel
theorem dX6_at_18 : decode cX6_at 18 = .ok (.if_icmp .ge 12, 3) := by decide +kernel
theorem dX6_at_21 : decode cX6_at 21 = .ok (.aload_n 0, 1) := by decide +kernel
theorem dX6_at_22 : decode cX6_at 22 = .ok (.getfield 11, 3) := by decide +kernel
theorem dX6_at_25 : decode cX6_at 25 = .ok (.iload_n 1, 1) := by decide +kernel
theorem dX6_at_26 : decode cX6_at 26 = .ok (.aaload, 1) := by decide +kernel
theorem dX6_at_27 : decode cX6_at 27 = .ok (.goto 4, 3) := by decide +kernel
theorem dX6_at_30 : decode cX6_at 30 = .ok (.aconst_null, 1) := by decide +kernel
theorem dX6_at_31 : decode cX6_at 31 = .ok (.areturn, 1) := by decide +kernel
theorem dX6_textOf_0 : decode cX6_textOf 0 = .ok (.iload_n 1, 1) := by decide +kernel
theorem dX6_textOf_1 : decode cX6_textOf 1 = .ok (.lookupswitch 37 #[(0, 27), (1, 32)], 27) := by decide +kernel
theorem dX6_textOf_28 : decode cX6_textOf 28 = .ok (.aload_n 0, 1) := by decide +kernel
theorem dX6_textOf_29 : decode cX6_textOf 29 = .ok (.getfield 22, 3) := by decide +kernel
theorem dX6_textOf_32 : decode cX6_textOf 32 = .ok (.areturn, 1) := by decide +kernel
theorem dX6_textOf_33 : decode cX6_textOf 33 = .ok (.aload_n 0, 1) := by decide +kernel
theorem dX6_textOf_34 : decode cX6_textOf 34 = .ok (.getfield 26, 3) := by decide +kernel
theorem dX6_textOf_37 : decode cX6_textOf 37 = .ok (.areturn, 1) := by decide +kernel
theorem dX6_textOf_38 : decode cX6_textOf 38 = .ok (.aconst_null, 1) := by decide +kernel
theorem dX6_textOf_39 : decode cX6_textOf 39 = .ok (.areturn, 1) := by decide +kernel
theorem dX6_add_0 : decode cX6_add 0 = .ok (.aload_n 0, 1) := by decide +kernel
theorem dX6_add_1 : decode cX6_add 1 = .ok (.getfield 29, 3) := by decide +kernel
theorem dX6_add_4 : decode cX6_add 4 = .ok (.istore 4, 2) := by decide +kernel
theorem dX6_add_6 : decode cX6_add 6 = .ok (.aload_n 0, 1) := by decide +kernel
theorem dX6_add_7 : decode cX6_add 7 = .ok (.invokevirtual 53, 3) := by decide +kernel
theorem dX6_add_10 : decode cX6_add 10 = .ok (.ifCond .ne 13, 3) := by decide +kernel
theorem dX6_add_13 : decode cX6_add 13 = .ok (.aload_n 0, 1) := by decide +kernel
theorem dX6_add_14 : decode cX6_add 14 = .ok (.dup, 1) := by decide +kernel
theorem dX6_add_15 : decode cX6_add 15 = .ok (.getfield 29, 3) := by decide +kernel
theorem dX6_add_18 : decode cX6_add 18 = .ok (.iconst 1, 1) := by decide +kernel
theorem dX6_add_19 : decode cX6_add 19 = .ok (.iadd, 1) := by decide +kernel
theorem dX6_add_20 : decode cX6_add 20 = .ok (.putfield 29, 3) := by decide +kernel
theorem dX6_add_23 : decode cX6_add 23 = .ok (.aload_n 0, 1) := by decide +kernel
theorem dX6_add_24 : decode cX6_add 24 = .ok (.iload 4, 2) := by decide +kernel
theorem dX6_add_26 : decode cX6_add 26 = .ok (.invokevirtual 57, 3) := by decide +kernel
theorem dX6_add_29 : decode cX6_add 29 = .ok (.astore 5, 2) := by decide +kernel
theorem dX6_add_31 : decode cX6_add 31 = .ok (.aload 5, 2) := by decide +kernel
theorem dX6_add_33 : decode cX6_add 33 = .ok (.ifnull 45, 3) := by decide +kernel
theorem dX6_add_36 : decode cX6_add 36 = .ok (.aload 5, 2) := by decide +kernel
theorem dX6_add_38 : decode cX6_add 38 = .ok (.iload_n 1, 1) := by decide +kernel
theorem dX6_add_39 : decode cX6_add 39 = .ok (.bipush 10, 2) := by decide +kernel
theorem dX6_add_41 : decode cX6_add 41 = .ok (.idiv, 1) := by decide +kernel
theorem dX6_add_42 : decode cX6_add 42 = .ok (.putfield 61, 3) := by decide +kernel
theorem dX6_add_45 : decode cX6_add 45 = .ok (.aload 5, 2) := by decide +kernel
theorem dX6_add_47 : decode cX6_add 47 = .ok (.iload_n 1, 1) := by decide +kernel
theorem dX6_add_48 : decode cX6_add 48 = .ok (.bipush 10, 2) := by decide +kernel
theorem dX6_add_50 : decode cX6_add 50 = .ok (.irem, 1) := by decide +kernel
theorem dX6_add_51 : decode cX6_add 51 = .ok (.putfield 64, 3) := by decide +kernel
theorem dX6_add_54 : decode cX6_add 54 = .ok (.aload 5, 2) := by decide +kernel
theorem dX6_add_56 : decode cX6_add 56 = .ok (.iload_n 2, 1) := by decide +kernel
theorem dX6_add_57 : decode cX6_add 57 = .ok (.putfield 67, 3) := by decide +kernel
theorem dX6_add_60 : decode cX6_add 60 = .ok (.aload 5, 2) := by decide +kernel
theorem dX6_add_62 : decode cX6_add 62 = .ok (.iload_n 3, 1) := by decide +kernel
theorem dX6_add_63 : decode cX6_add 63 = .ok (.bipush 100, 2) := by decide +kernel
theorem dX6_add_65 : decode cX6_add 65 = .ok (.idiv, 1) := by decide +kernel
theorem dX6_add_66 : decode cX6_add 66 = .ok (.putfield 70, 3) := by decide +kernel
theorem dX6_add_69 : decode cX6_add 69 = .ok (.aload 5, 2) := by decide +kernel
theorem dX6_add_71 : decode cX6_add 71 = .ok (.iload_n 3, 1) := by decide +kernel
theorem dX6_add_72 : decode cX6_add 72 = .ok (.bipush 100, 2) := by decide +kernel
theorem dX6_add_74 : decode cX6_add 74 = .ok (.irem, 1) := by decide +kernel
theorem dX6_add_75 : decode cX6_add 75 = .ok (.putfield 73, 3) := by decide +kernel
theorem dX6_add_78 : decode cX6_add 78 = .ok (.iload 4, 2) := by decide +kernel
theorem dX6_add_80 : decode cX6_add 80 = .ok (.ireturn, 1) := by decide +kernel
theorem dX6_light_0 : decode cX6_light 0 = .ok (.aload_n 0, 1) := by decide +kernel
theorem dX6_light_1 : decode cX6_light 1 = .ok (.getfield 22, 3) := by decide +kernel
theorem dX6_light_4 : decode cX6_light 4 = .ok (.aload_n 1, 1) := by decide +kernel
theorem dX6_light_5 : decode cX6_light 5 = .ok (.aload_n 0, 1) := by decide +kernel
theorem dX6_light_6 : decode cX6_light 6 = .ok (.getfield 36, 3) := by decide +kernel
theorem dX6_light_9 : decode cX6_light 9 = .ok (.invokevirtual 76, 3) := by decide +kernel
theorem dX6_light_12 : decode cX6_light 12 = .ok (.aload_n 1, 1) := by decide +kernel
theorem dX6_light_13 : decode cX6_light 13 = .ok (.getfield 67, 3) := by decide +kernel
theorem dX6_light_16 : decode cX6_light 16 = .ok (.invokestatic 80, 3) := by decide +kernel
theorem dX6_light_19 : decode cX6_light 19 = .ok (.aload_n 0, 1) := by decide +kernel
theorem dX6_light_20 : decode cX6_light 20 = .ok (.getfield 36, 3) := by decide +kernel
theorem dX6_light_23 : decode cX6_light 23 = .ok (.bipush 7, 2) := by decide +kernel
theorem dX6_light_25 : decode cX6_light 25 = .ok (.irem, 1) := by decide +kernel
theorem dX6_light_26 : decode cX6_light 26 = .ok (.invokevirtual 85, 3) := by decide +kernel
theorem dX6_light_29 : decode cX6_light 29 = .ok (.ireturn, 1) := by decide +kernel
theorem dX6_gives_0 : decode cX6_gives 0 = .ok (.aload_n 0, 1) := by decide +kernel
theorem dX6_gives_1 : decode cX6_gives 1 = .ok (.aload_n 1, 1) := by decide +kernel
theorem dX6_gives_2 : decode cX6_gives 2 = .ok (.invokevirtual 89, 3) := by decide +kernel
theorem dX6_gives_5 : decode cX6_gives 5 = .ok (.aload_n 1, 1) := by decide +kernel
theorem dX6_gives_6 : decode cX6_gives 6 = .ok (.aload_n 0, 1) := by decide +kernel
theorem dX6_gives_7 : decode cX6_gives 7 = .ok (.getfield 33, 3) := by decide +kernel
theorem dX6_gives_10 : decode cX6_gives 10 = .ok (.invokevirtual 93, 3) := by decide +kernel
theorem dX6_gives_13 : decode cX6_gives 13 = .ok (.isub, 1) := by decide +kernel
theorem dX6_gives_14 : decode cX6_gives 14 = .ok (.ireturn, 1) := by decide +kernel
theorem dX6_wanted_0 : decode cX6_wanted 0 = .ok (.aload_n 0, 1) := by decide +kernel
theorem dX6_wanted_1 : decode cX6_wanted 1 = .ok (.getfield 26, 3) := by decide +kernel
theorem dX6_wanted_4 : decode cX6_wanted 4 = .ok (.aload_n 0, 1) := by decide +kernel
theorem dX6_wanted_5 : decode cX6_wanted 5 = .ok (.getfield 33, 3) := by decide +kernel
theorem dX6_wanted_8 : decode cX6_wanted 8 = .ok (.aload_n 0, 1) := by decide +kernel
theorem dX6_wanted_9 : decode cX6_wanted 9 = .ok (.getfield 36, 3) := by decide +kernel
theorem dX6_wanted_12 : decode cX6_wanted 12 = .ok (.bipush 7, 2) := by decide +kernel
theorem dX6_wanted_14 : decode cX6_wanted 14 = .ok (.irem, 1) := by decide +kernel
theorem dX6_wanted_15 : decode cX6_wanted 15 = .ok (.aload_n 0, 1) := by decide +kernel
theorem dX6_wanted_16 : decode cX6_wanted 16 = .ok (.invokevirtual 96, 3) := by decide +kernel
theorem dX6_wanted_19 : decode cX6_wanted 19 = .ok (.invokevirtual 85, 3) := by decide +kernel
theorem dX6_wanted_22 : decode cX6_wanted 22 = .ok (.ireturn, 1) := by decide +kernel
theorem dX6_keepersWithOil_0 : decode cX6_keepersWithOil 0 = .ok (.iconst 0, 1) := by decide +kernel
theorem dX6_keepersWithOil_1 : decode cX6_keepersWithOil 1 = .ok (.istore_n 1, 1) := by decide +kernel
theorem dX6_keepersWithOil_2 : decode cX6_keepersWithOil 2 = .ok (.iconst 0, 1) := by decide +kernel
theorem dX6_keepersWithOil_3 : decode cX6_keepersWithOil 3 = .ok (.istore_n 2, 1) := by decide +kernel
theorem dX6_keepersWithOil_4 : decode cX6_keepersWithOil 4 = .ok (.iload_n 2, 1) := by decide +kernel
theorem dX6_keepersWithOil_5 : decode cX6_keepersWithOil 5 = .ok (.aload_n 0, 1) := by decide +kernel
theorem dX6_keepersWithOil_6 : decode cX6_keepersWithOil 6 = .ok (.getfield 29, 3) := by decide +kernel
theorem dX6_keepersWithOil_9 : decode cX6_keepersWithOil 9 = .ok (.if_icmp .ge 33, 3) := by decide +kernel
theorem dX6_keepersWithOil_12 : decode cX6_keepersWithOil 12 = .ok (.aload_n 0, 1) := by decide +kernel
theorem dX6_keepersWithOil_13 : decode cX6_keepersWithOil 13 = .ok (.iload_n 2, 1) := by decide +kernel
theorem dX6_keepersWithOil_14 : decode cX6_keepersWithOil 14 = .ok (.invokevirtual 57, 3) := by decide +kernel
theorem dX6_keepersWithOil_17 : decode cX6_keepersWithOil 17 = .ok (.astore_n 3, 1) := by decide +kernel
theorem dX6_keepersWithOil_18 : decode cX6_keepersWithOil 18 = .ok (.aload_n 3, 1) := by decide +kernel
theorem dX6_keepersWithOil_19 : decode cX6_keepersWithOil 19 = .ok (.ifnull 17, 3) := by decide +kernel
theorem dX6_keepersWithOil_22 : decode cX6_keepersWithOil 22 = .ok (.aload_n 3, 1) := by decide +kernel
theorem dX6_keepersWithOil_23 : decode cX6_keepersWithOil 23 = .ok (.getfield 70, 3) := by decide +kernel
theorem dX6_keepersWithOil_26 : decode cX6_keepersWithOil 26 = .ok (.ifCond .le 10, 3) := by decide +kernel
theorem dX6_keepersWithOil_29 : decode cX6_keepersWithOil 29 = .ok (.iload_n 1, 1) := by decide +kernel
theorem dX6_keepersWithOil_30 : decode cX6_keepersWithOil 30 = .ok (.aload_n 3, 1) := by decide +kernel
theorem dX6_keepersWithOil_31 : decode cX6_keepersWithOil 31 = .ok (.getfield 67, 3) := by decide +kernel
theorem dX6_keepersWithOil_34 : decode cX6_keepersWithOil 34 = .ok (.ior, 1) := by decide +kernel
theorem dX6_keepersWithOil_35 : decode cX6_keepersWithOil 35 = .ok (.istore_n 1, 1) := by decide +kernel
theorem dX6_keepersWithOil_36 : decode cX6_keepersWithOil 36 = .ok (.iinc 2 1, 3) := by decide +kernel
theorem dX6_keepersWithOil_39 : decode cX6_keepersWithOil 39 = .ok (.goto (-35), 3) := by decide +kernel
theorem dX6_keepersWithOil_42 : decode cX6_keepersWithOil 42 = .ok (.iload_n 1, 1) := by decide +kernel
theorem dX6_keepersWithOil_43 : decode cX6_keepersWithOil 43 = .ok (.invokestatic 80, 3) := by decide +kernel
theorem dX6_keepersWithOil_46 : decode cX6_keepersWithOil 46 = .ok (.ireturn, 1) := by decide +kernel
theorem dX6_passNight_0 : decode cX6_passNight 0 = .ok (.aload_n 1, 1) := by decide +kernel
theorem dX6_passNight_1 : decode cX6_passNight 1 = .ok (.aload_n 0, 1) := by decide +kernel
theorem dX6_passNight_2 : decode cX6_passNight 2 = .ok (.iload_n 2, 1) := by decide +kernel
theorem dX6_passNight_3 : decode cX6_passNight 3 = .ok (.invokevirtual 100, 3) := by decide +kernel
theorem dX6_passNight_6 : decode cX6_passNight 6 = .ok (.istore_n 3, 1) := by decide +kernel
theorem dX6_passNight_7 : decode cX6_passNight 7 = .ok (.iload_n 3, 1) := by decide +kernel
theorem dX6_passNight_8 : decode cX6_passNight 8 = .ok (.ifCond .eq 14, 3) := by decide +kernel
theorem dX6_passNight_11 : decode cX6_passNight 11 = .ok (.aload_n 0, 1) := by decide +kernel
theorem dX6_passNight_12 : decode cX6_passNight 12 = .ok (.aload_n 1, 1) := by decide +kernel
theorem dX6_passNight_13 : decode cX6_passNight 13 = .ok (.invokevirtual 106, 3) := by decide +kernel
theorem dX6_passNight_16 : decode cX6_passNight 16 = .ok (.invokevirtual 109, 3) := by decide +kernel
theorem dX6_passNight_19 : decode cX6_passNight 19 = .ok (.goto 19, 3) := by decide +kernel
theorem dX6_passNight_22 : decode cX6_passNight 22 = .ok (.aload_n 0, 1) := by decide +kernel
theorem dX6_passNight_23 : decode cX6_passNight 23 = .ok (.sipush 9999, 3) := by decide +kernel
theorem dX6_passNight_26 : decode cX6_passNight 26 = .ok (.aload_n 0, 1) := by decide +kernel
theorem dX6_passNight_27 : decode cX6_passNight 27 = .ok (.getfield 39, 3) := by decide +kernel
theorem dX6_passNight_30 : decode cX6_passNight 30 = .ok (.iconst 1, 1) := by decide +kernel
theorem dX6_passNight_31 : decode cX6_passNight 31 = .ok (.iadd, 1) := by decide +kernel
theorem dX6_passNight_32 : decode cX6_passNight 32 = .ok (.invokestatic 112, 3) := by decide +kernel
theorem dX6_passNight_35 : decode cX6_passNight 35 = .ok (.putfield 39, 3) := by decide +kernel
theorem dX6_passNight_38 : decode cX6_passNight 38 = .ok (.aload_n 0, 1) := by decide +kernel
theorem dX6_passNight_39 : decode cX6_passNight 39 = .ok (.dup, 1) := by decide +kernel
theorem dX6_passNight_40 : decode cX6_passNight 40 = .ok (.getfield 36, 3) := by decide +kernel
theorem dX6_passNight_43 : decode cX6_passNight 43 = .ok (.iconst 1, 1) := by decide +kernel
theorem dX6_passNight_44 : decode cX6_passNight 44 = .ok (.iadd, 1) := by decide +kernel
theorem dX6_passNight_45 : decode cX6_passNight 45 = .ok (.putfield 36, 3) := by decide +kernel
theorem dX6_passNight_48 : decode cX6_passNight 48 = .ok (.iload_n 3, 1) := by decide +kernel
theorem dX6_passNight_49 : decode cX6_passNight 49 = .ok (.ireturn, 1) := by decide +kernel
theorem dX6_burn_0 : decode cX6_burn 0 = .ok (.iconst 0, 1) := by decide +kernel
theorem dX6_burn_1 : decode cX6_burn 1 = .ok (.istore_n 2, 1) := by decide +kernel
theorem dX6_burn_2 : decode cX6_burn 2 = .ok (.iload_n 2, 1) := by decide +kernel
theorem dX6_burn_3 : decode cX6_burn 3 = .ok (.aload_n 0, 1) := by decide +kernel
theorem dX6_burn_4 : decode cX6_burn 4 = .ok (.getfield 29, 3) := by decide +kernel
theorem dX6_burn_7 : decode cX6_burn 7 = .ok (.if_icmp .ge 37, 3) := by decide +kernel
theorem dX6_burn_10 : decode cX6_burn 10 = .ok (.aload_n 0, 1) := by decide +kernel
theorem dX6_burn_11 : decode cX6_burn 11 = .ok (.iload_n 2, 1) := by decide +kernel
theorem dX6_burn_12 : decode cX6_burn 12 = .ok (.invokevirtual 57, 3) := by decide +kernel
theorem dX6_burn_15 : decode cX6_burn 15 = .ok (.astore_n 3, 1) := by decide +kernel
theorem dX6_burn_16 : decode cX6_burn 16 = .ok (.aload_n 3, 1) := by decide +kernel
theorem dX6_burn_17 : decode cX6_burn 17 = .ok (.ifnull 21, 3) := by decide +kernel
theorem dX6_burn_20 : decode cX6_burn 20 = .ok (.iload_n 1, 1) := by decide +kernel
theorem dX6_burn_21 : decode cX6_burn 21 = .ok (.iconst 1, 1) := by decide +kernel
theorem dX6_burn_22 : decode cX6_burn 22 = .ok (.iload_n 2, 1) := by decide +kernel
theorem dX6_burn_23 : decode cX6_burn 23 = .ok (.ishl, 1) := by decide +kernel
theorem dX6_burn_24 : decode cX6_burn 24 = .ok (.iand, 1) := by decide +kernel
theorem dX6_burn_25 : decode cX6_burn 25 = .ok (.ifCond .eq 13, 3) := by decide +kernel
theorem dX6_burn_28 : decode cX6_burn 28 = .ok (.aload_n 3, 1) := by decide +kernel
theorem dX6_burn_29 : decode cX6_burn 29 = .ok (.dup, 1) := by decide +kernel
theorem dX6_burn_30 : decode cX6_burn 30 = .ok (.getfield 70, 3) := by decide +kernel
theorem dX6_burn_33 : decode cX6_burn 33 = .ok (.iconst 1, 1) := by decide +kernel
theorem dX6_burn_34 : decode cX6_burn 34 = .ok (.isub, 1) := by decide +kernel
theorem dX6_burn_35 : decode cX6_burn 35 = .ok (.putfield 70, 3) := by decide +kernel
theorem dX6_burn_38 : decode cX6_burn 38 = .ok (.iinc 2 1, 3) := by decide +kernel
theorem dX6_burn_41 : decode cX6_burn 41 = .ok (.goto (-39), 3) := by decide +kernel
theorem dX6_burn_44 : decode cX6_burn 44 = .ok (.return_, 1) := by decide +kernel
theorem dX6_drawTheDay_0 : decode cX6_drawTheDay 0 = .ok (.aload_n 0, 1) := by decide +kernel
theorem dX6_drawTheDay_1 : decode cX6_drawTheDay 1 = .ok (.aload_n 0, 1) := by decide +kernel
theorem dX6_drawTheDay_2 : decode cX6_drawTheDay 2 = .ok (.invokevirtual 118, 3) := by decide +kernel
theorem dX6_drawTheDay_5 : decode cX6_drawTheDay 5 = .ok (.bipush 10, 2) := by decide +kernel
theorem dX6_drawTheDay_7 : decode cX6_drawTheDay 7 = .ok (.irem, 1) := by decide +kernel
theorem dX6_drawTheDay_8 : decode cX6_drawTheDay 8 = .ok (.putfield 33, 3) := by decide +kernel
theorem dX6_drawTheDay_11 : decode cX6_drawTheDay 11 = .ok (.aload_n 0, 1) := by decide +kernel
theorem dX6_drawTheDay_12 : decode cX6_drawTheDay 12 = .ok (.getfield 29, 3) := by decide +kernel
theorem dX6_drawTheDay_15 : decode cX6_drawTheDay 15 = .ok (.ifCond .le 53, 3) := by decide +kernel
theorem dX6_drawTheDay_18 : decode cX6_drawTheDay 18 = .ok (.aload_n 0, 1) := by decide +kernel
theorem dX6_drawTheDay_19 : decode cX6_drawTheDay 19 = .ok (.invokevirtual 118, 3) := by decide +kernel
theorem dX6_drawTheDay_22 : decode cX6_drawTheDay 22 = .ok (.bipush 8, 2) := by decide +kernel
theorem dX6_drawTheDay_24 : decode cX6_drawTheDay 24 = .ok (.irem, 1) := by decide +kernel
theorem dX6_drawTheDay_25 : decode cX6_drawTheDay 25 = .ok (.ifCond .ne 43, 3) := by decide +kernel
theorem dX6_drawTheDay_28 : decode cX6_drawTheDay 28 = .ok (.aload_n 0, 1) := by decide +kernel
theorem dX6_drawTheDay_29 : decode cX6_drawTheDay 29 = .ok (.aload_n 0, 1) := by decide +kernel
theorem dX6_drawTheDay_30 : decode cX6_drawTheDay 30 = .ok (.invokevirtual 118, 3) := by decide +kernel
theorem dX6_drawTheDay_33 : decode cX6_drawTheDay 33 = .ok (.aload_n 0, 1) := by decide +kernel
theorem dX6_drawTheDay_34 : decode cX6_drawTheDay 34 = .ok (.getfield 29, 3) := by decide +kernel
theorem dX6_drawTheDay_37 : decode cX6_drawTheDay 37 = .ok (.irem, 1) := by decide +kernel
theorem dX6_drawTheDay_38 : decode cX6_drawTheDay 38 = .ok (.invokevirtual 57, 3) := by decide +kernel
theorem dX6_drawTheDay_41 : decode cX6_drawTheDay 41 = .ok (.astore_n 1, 1) := by decide +kernel
theorem dX6_drawTheDay_42 : decode cX6_drawTheDay 42 = .ok (.aload_n 0, 1) := by decide +kernel
theorem dX6_drawTheDay_43 : decode cX6_drawTheDay 43 = .ok (.invokevirtual 118, 3) := by decide +kernel
theorem dX6_drawTheDay_46 : decode cX6_drawTheDay 46 = .ok (.iconst 5, 1) := by decide +kernel
theorem dX6_drawTheDay_47 : decode cX6_drawTheDay 47 = .ok (.irem, 1) := by decide +kernel
theorem dX6_drawTheDay_48 : decode cX6_drawTheDay 48 = .ok (.istore_n 2, 1) := by decide +kernel
theorem dX6_drawTheDay_49 : decode cX6_drawTheDay 49 = .ok (.aload_n 1, 1) := by decide +kernel
theorem dX6_drawTheDay_50 : decode cX6_drawTheDay 50 = .ok (.ifnull 18, 3) := by decide +kernel
theorem dX6_drawTheDay_53 : decode cX6_drawTheDay 53 = .ok (.aload_n 1, 1) := by decide +kernel
theorem dX6_drawTheDay_54 : decode cX6_drawTheDay 54 = .ok (.bipush 99, 2) := by decide +kernel
theorem dX6_drawTheDay_56 : decode cX6_drawTheDay 56 = .ok (.aload_n 1, 1) := by decide +kernel
theorem dX6_drawTheDay_57 : decode cX6_drawTheDay 57 = .ok (.getfield 70, 3) := by decide +kernel
theorem dX6_drawTheDay_60 : decode cX6_drawTheDay 60 = .ok (.iload_n 2, 1) := by decide +kernel
theorem dX6_drawTheDay_61 : decode cX6_drawTheDay 61 = .ok (.iadd, 1) := by decide +kernel
theorem dX6_drawTheDay_62 : decode cX6_drawTheDay 62 = .ok (.invokestatic 112, 3) := by decide +kernel
theorem dX6_drawTheDay_65 : decode cX6_drawTheDay 65 = .ok (.putfield 70, 3) := by decide +kernel
theorem dX6_drawTheDay_68 : decode cX6_drawTheDay 68 = .ok (.return_, 1) := by decide +kernel
theorem dX6_draw_0 : decode cX6_draw 0 = .ok (.aload_n 0, 1) := by decide +kernel
theorem dX6_draw_1 : decode cX6_draw 1 = .ok (.aload_n 0, 1) := by decide +kernel
theorem dX6_draw_2 : decode cX6_draw 2 = .ok (.getfield 42, 3) := by decide +kernel
theorem dX6_draw_5 : decode cX6_draw 5 = .ok (.ldc 121, 2) := by decide +kernel
theorem dX6_draw_7 : decode cX6_draw 7 = .ok (.imul, 1) := by decide +kernel
theorem dX6_draw_8 : decode cX6_draw 8 = .ok (.sipush 12345, 3) := by decide +kernel
theorem dX6_draw_11 : decode cX6_draw 11 = .ok (.iadd, 1) := by decide +kernel
theorem dX6_draw_12 : decode cX6_draw 12 = .ok (.putfield 42, 3) := by decide +kernel
theorem dX6_draw_15 : decode cX6_draw 15 = .ok (.aload_n 0, 1) := by decide +kernel
theorem dX6_draw_16 : decode cX6_draw 16 = .ok (.getfield 42, 3) := by decide +kernel
theorem dX6_draw_19 : decode cX6_draw 19 = .ok (.bipush 8, 2) := by decide +kernel
theorem dX6_draw_21 : decode cX6_draw 21 = .ok (.iushr, 1) := by decide +kernel
theorem dX6_draw_22 : decode cX6_draw 22 = .ok (.ireturn, 1) := by decide +kernel
theorem dX7_init_0 : decode cX7_init 0 = .ok (.aload_n 0, 1) := by decide +kernel
theorem dX7_init_1 : decode cX7_init 1 = .ok (.invokespecial 3, 3) := by decide +kernel
theorem dX7_init_4 : decode cX7_init 4 = .ok (.aload_n 0, 1) := by decide +kernel
theorem dX7_init_5 : decode cX7_init 5 = .ok (.new 9, 3) := by decide +kernel
theorem dX7_init_8 : decode cX7_init 8 = .ok (.dup, 1) := by decide +kernel
theorem dX7_init_9 : decode cX7_init 9 = .ok (.bipush 30, 2) := by decide +kernel
theorem dX7_init_11 : decode cX7_init 11 = .ok (.invokespecial 11, 3) := by decide +kernel
theorem dX7_init_14 : decode cX7_init 14 = .ok (.putfield 14, 3) := by decide +kernel
theorem dX7_init_17 : decode cX7_init 17 = .ok (.aload_n 0, 1) := by decide +kernel
theorem dX7_init_18 : decode cX7_init 18 = .ok (.iconst 0, 1) := by decide +kernel
theorem dX7_init_19 : decode cX7_init 19 = .ok (.putfield 20, 3) := by decide +kernel
theorem dX7_init_22 : decode cX7_init 22 = .ok (.aload_n 0, 1) := by decide +kernel
theorem dX7_init_23 : decode cX7_init 23 = .ok (.iconst 0, 1) := by decide +kernel
theorem dX7_init_24 : decode cX7_init 24 = .ok (.putfield 24, 3) := by decide +kernel
theorem dX7_init_27 : decode cX7_init 27 = .ok (.aload_n 0, 1) := by decide +kernel
theorem dX7_init_28 : decode cX7_init 28 = .ok (.iconst 0, 1) := by decide +kernel
theorem dX7_init_29 : decode cX7_init 29 = .ok (.putfield 27, 3) := by decide +kernel
theorem dX7_init_32 : decode cX7_init 32 = .ok (.aload_n 0, 1) := by decide +kernel
theorem dX7_init_33 : decode cX7_init 33 = .ok (.iconst 0, 1) := by decide +kernel
theorem dX7_init_34 : decode cX7_init 34 = .ok (.putfield 30, 3) := by decide +kernel
theorem dX7_init_37 : decode cX7_init 37 = .ok (.return_, 1) := by decide +kernel
theorem dX7_speak_0 : decode cX7_speak 0 = .ok (.aload_n 0, 1) := by decide +kernel
theorem dX7_speak_1 : decode cX7_speak 1 = .ok (.getfield 14, 3) := by decide +kernel
theorem dX7_speak_4 : decode cX7_speak 4 = .ok (.invokevirtual 34, 3) := by decide +kernel
theorem dX7_speak_7 : decode cX7_speak 7 = .ok (.aload_n 0, 1) := by decide +kernel
theorem dX7_speak_8 : decode cX7_speak 8 = .ok (.aload_n 1, 1) := by decide +kernel
theorem dX7_speak_9 : decode cX7_speak 9 = .ok (.getfield 37, 3) := by decide +kernel
theorem dX7_speak_12 : decode cX7_speak 12 = .ok (.putfield 20, 3) := by decide +kernel
theorem dX7_speak_15 : decode cX7_speak 15 = .ok (.aload_n 0, 1) := by decide +kernel
theorem dX7_speak_16 : decode cX7_speak 16 = .ok (.aload_n 1, 1) := by decide +kernel
theorem dX7_speak_17 : decode cX7_speak 17 = .ok (.getfield 40, 3) := by decide +kernel
theorem dX7_speak_20 : decode cX7_speak 20 = .ok (.putfield 24, 3) := by decide +kernel
theorem dX7_speak_23 : decode cX7_speak 23 = .ok (.aload_n 0, 1) := by decide +kernel
theorem dX7_speak_24 : decode cX7_speak 24 = .ok (.iload_n 2, 1) := by decide +kernel
theorem dX7_speak_25 : decode cX7_speak 25 = .ok (.putfield 27, 3) := by decide +kernel
theorem dX7_speak_28 : decode cX7_speak 28 = .ok (.aload_n 0, 1) := by decide +kernel
theorem dX7_speak_29 : decode cX7_speak 29 = .ok (.iconst 0, 1) := by decide +kernel
theorem dX7_speak_30 : decode cX7_speak 30 = .ok (.putfield 30, 3) := by decide +kernel
theorem dX7_speak_33 : decode cX7_speak 33 = .ok (.iload_n 3, 1) := by decide +kernel
theorem dX7_speak_34 : decode cX7_speak 34 = .ok (.tableswitch 47 0 2 #[26, 33, 40], 26) := by decide +kernel
theorem dX7_speak_60 : decode cX7_speak 60 = .ok (.aload_n 0, 1) := by decide +kernel
theorem dX7_speak_61 : decode cX7_speak 61 = .ok (.iload 4, 2) := by decide +kernel
theorem dX7_speak_63 : decode cX7_speak 63 = .ok (.invokevirtual 43, 3) := by decide +kernel
theorem dX7_speak_66 : decode cX7_speak 66 = .ok (.ireturn, 1) := by decide +kernel
theorem dX7_speak_67 : decode cX7_speak 67 = .ok (.aload_n 0, 1) := by decide +kernel
theorem dX7_speak_68 : decode cX7_speak 68 = .ok (.iload 4, 2) := by decide +kernel
theorem dX7_speak_70 : decode cX7_speak 70 = .ok (.invokevirtual 47, 3) := by decide +kernel
theorem dX7_speak_73 : decode cX7_speak 73 = .ok (.ireturn, 1) := by decide +kernel
theorem dX7_speak_74 : decode cX7_speak 74 = .ok (.aload_n 0, 1) := by decide +kernel
theorem dX7_speak_75 : decode cX7_speak 75 = .ok (.iload 4, 2) := by decide +kernel
theorem dX7_speak_77 : decode cX7_speak 77 = .ok (.invokevirtual 50, 3) := by decide +kernel
theorem dX7_speak_80 : decode cX7_speak 80 = .ok (.ireturn, 1) := by decide +kernel
theorem dX7_speak_81 : decode cX7_speak 81 = .ok (.aload_n 0, 1) := by decide +kernel
theorem dX7_speak_82 : decode cX7_speak 82 = .ok (.iload 4, 2) := by decide +kernel
theorem dX7_speak_84 : decode cX7_speak 84 = .ok (.invokevirtual 53, 3) := by decide +kernel
theorem dX7_speak_87 : decode cX7_speak 87 = .ok (.ireturn, 1) := by decide +kernel
theorem dX7_glow_0 : decode cX7_glow 0 = .ok (.aload_n 0, 1) := by decide +kernel
theorem dX7_glow_1 : decode cX7_glow 1 = .ok (.getfield 20, 3) := by decide +kernel
theorem dX7_glow_4 : decode cX7_glow 4 = .ok (.lookupswitch 119 #[(1, 36), (4, 65), (6, 106)], 36) := by decide +kernel
theorem dX7_glow_40 : decode cX7_glow 40 = .ok (.aload_n 0, 1) := by decide +kernel
theorem dX7_glow_41 : decode cX7_glow 41 = .ok (.getfield 14, 3) := by decide +kernel
theorem dX7_glow_44 : decode cX7_glow 44 = .ok (.bipush 20, 2) := by decide +kernel
theorem dX7_glow_46 : decode cX7_glow 46 = .ok (.invokevirtual 56, 3) := by decide +kernel
theorem dX7_glow_49 : decode cX7_glow 49 = .ok (.pop, 1) := by decide +kernel
theorem dX7_glow_50 : decode cX7_glow 50 = .ok (.aload_n 0, 1) := by decide +kernel
theorem dX7_glow_51 : decode cX7_glow 51 = .ok (.getfield 14, 3) := by decide +kernel
theorem dX7_glow_54 : decode cX7_glow 54 = .ok (.bipush 10, 2) := by decide +kernel
theorem dX7_glow_56 : decode cX7_glow 56 = .ok (.invokevirtual 56, 3) := by decide +kernel
theorem dX7_glow_59 : decode cX7_glow 59 = .ok (.pop, 1) := by decide +kernel
theorem dX7_glow_60 : decode cX7_glow 60 = .ok (.iload_n 1, 1) := by decide +kernel
theorem dX7_glow_61 : decode cX7_glow 61 = .ok (.aload_n 0, 1) := by decide +kernel
theorem dX7_glow_62 : decode cX7_glow 62 = .ok (.getfield 27, 3) := by decide +kernel
theorem dX7_glow_65 : decode cX7_glow 65 = .ok (.iadd, 1) := by decide +kernel
theorem dX7_glow_66 : decode cX7_glow 66 = .ok (.iconst 4, 1) := by decide +kernel
theorem dX7_glow_67 : decode cX7_glow 67 = .ok (.isub, 1) := by decide +kernel
theorem dX7_glow_68 : decode cX7_glow 68 = .ok (.ireturn, 1) := by decide +kernel
theorem dX7_glow_69 : decode cX7_glow 69 = .ok (.aload_n 0, 1) := by decide +kernel
theorem dX7_glow_70 : decode cX7_glow 70 = .ok (.getfield 14, 3) := by decide +kernel
theorem dX7_glow_73 : decode cX7_glow 73 = .ok (.bipush 50, 2) := by decide +kernel
theorem dX7_glow_75 : decode cX7_glow 75 = .ok (.invokevirtual 56, 3) := by decide +kernel
theorem dX7_glow_78 : decode cX7_glow 78 = .ok (.pop, 1) := by decide +kernel
theorem dX7_glow_79 : decode cX7_glow 79 = .ok (.aload_n 0, 1) := by decide +kernel
theorem dX7_glow_80 : decode cX7_glow 80 = .ok (.getfield 14, 3) := by decide +kernel
theorem dX7_glow_83 : decode cX7_glow 83 = .ok (.bipush 20, 2) := by decide +kernel
theorem dX7_glow_85 : decode cX7_glow 85 = .ok (.invokevirtual 56, 3) := by decide +kernel
theorem dX7_glow_88 : decode cX7_glow 88 = .ok (.pop, 1) := by decide +kernel
theorem dX7_glow_89 : decode cX7_glow 89 = .ok (.aload_n 0, 1) := by decide +kernel
theorem dX7_glow_90 : decode cX7_glow 90 = .ok (.getfield 14, 3) := by decide +kernel
theorem dX7_glow_93 : decode cX7_glow 93 = .ok (.bipush 10, 2) := by decide +kernel
theorem dX7_glow_95 : decode cX7_glow 95 = .ok (.invokevirtual 56, 3) := by decide +kernel
theorem dX7_glow_98 : decode cX7_glow 98 = .ok (.pop, 1) := by decide +kernel
theorem dX7_glow_99 : decode cX7_glow 99 = .ok (.iload_n 1, 1) := by decide +kernel
theorem dX7_glow_100 : decode cX7_glow 100 = .ok (.aload_n 0, 1) := by decide +kernel
theorem dX7_glow_101 : decode cX7_glow 101 = .ok (.getfield 27, 3) := by decide +kernel
theorem dX7_glow_104 : decode cX7_glow 104 = .ok (.iadd, 1) := by decide +kernel
theorem dX7_glow_105 : decode cX7_glow 105 = .ok (.iconst 4, 1) := by decide +kernel
theorem dX7_glow_106 : decode cX7_glow 106 = .ok (.isub, 1) := by decide +kernel
theorem dX7_glow_107 : decode cX7_glow 107 = .ok (.iconst 3, 1) := by decide +kernel
theorem dX7_glow_108 : decode cX7_glow 108 = .ok (.imul, 1) := by decide +kernel
theorem dX7_glow_109 : decode cX7_glow 109 = .ok (.ireturn, 1) := by decide +kernel
theorem dX7_glow_110 : decode cX7_glow 110 = .ok (.aload_n 0, 1) := by decide +kernel
theorem dX7_glow_111 : decode cX7_glow 111 = .ok (.getfield 14, 3) := by decide +kernel
theorem dX7_glow_114 : decode cX7_glow 114 = .ok (.bipush 70, 2) := by decide +kernel
theorem dX7_glow_116 : decode cX7_glow 116 = .ok (.invokevirtual 56, 3) := by decide +kernel
theorem dX7_glow_119 : decode cX7_glow 119 = .ok (.pop, 1) := by decide +kernel
theorem dX7_glow_120 : decode cX7_glow 120 = .ok (.bipush 9, 2) := by decide +kernel
theorem dX7_glow_122 : decode cX7_glow 122 = .ok (.ireturn, 1) := by decide +kernel
theorem dX7_glow_123 : decode cX7_glow 123 = .ok (.aload_n 0, 1) := by decide +kernel
theorem dX7_glow_124 : decode cX7_glow 124 = .ok (.getfield 14, 3) := by decide +kernel
theorem dX7_glow_127 : decode cX7_glow 127 = .ok (.bipush 10, 2) := by decide +kernel
theorem dX7_glow_129 : decode cX7_glow 129 = .ok (.invokevirtual 56, 3) := by decide +kernel
theorem dX7_glow_132 : decode cX7_glow 132 = .ok (.pop, 1) := by decide +kernel
theorem dX7_glow_133 : decode cX7_glow 133 = .ok (.iload_n 1, 1) := by decide +kernel
theorem dX7_glow_134 : decode cX7_glow 134 = .ok (.aload_n 0, 1) := by decide +kernel
theorem dX7_glow_135 : decode cX7_glow 135 = .ok (.getfield 27, 3) := by decide +kernel
theorem dX7_glow_138 : decode cX7_glow 138 = .ok (.iadd, 1) := by decide +kernel
theorem dX7_glow_139 : decode cX7_glow 139 = .ok (.ireturn, 1) := by decide +kernel
theorem dX7_turn_0 : decode cX7_turn 0 = .ok (.aload_n 0, 1) := by decide +kernel
theorem dX7_turn_1 : decode cX7_turn 1 = .ok (.getfield 20, 3) := by decide +kernel
theorem dX7_turn_4 : decode cX7_turn 4 = .ok (.tableswitch 105 2 6 #[36, 105, 105, 54, 84], 36) := by decide +kernel
theorem dX7_turn_40 : decode cX7_turn 40 = .ok (.aload_n 0, 1) := by decide +kernel
theorem dX7_turn_41 : decode cX7_turn 41 = .ok (.getfield 14, 3) := by decide +kernel
theorem dX7_turn_44 : decode cX7_turn 44 = .ok (.bipush 30, 2) := by decide +kernel
theorem dX7_turn_46 : decode cX7_turn 46 = .ok (.invokevirtual 56, 3) := by decide +kernel
theorem dX7_turn_49 : decode cX7_turn 49 = .ok (.pop, 1) := by decide +kernel
theorem dX7_turn_50 : decode cX7_turn 50 = .ok (.iconst 0, 1) := by decide +kernel
theorem dX7_turn_51 : decode cX7_turn 51 = .ok (.aload_n 0, 1) := by decide +kernel
theorem dX7_turn_52 : decode cX7_turn 52 = .ok (.iload_n 1, 1) := by decide +kernel
theorem dX7_turn_53 : decode cX7_turn 53 = .ok (.invokevirtual 60, 3) := by decide +kernel
theorem dX7_turn_56 : decode cX7_turn 56 = .ok (.isub, 1) := by decide +kernel
theorem dX7_turn_57 : decode cX7_turn 57 = .ok (.ireturn, 1) := by decide +kernel
theorem dX7_turn_58 : decode cX7_turn 58 = .ok (.aload_n 0, 1) := by decide +kernel
theorem dX7_turn_59 : decode cX7_turn 59 = .ok (.getfield 14, 3) := by decide +kernel
theorem dX7_turn_62 : decode cX7_turn 62 = .ok (.bipush 60, 2) := by decide +kernel
theorem dX7_turn_64 : decode cX7_turn 64 = .ok (.invokevirtual 56, 3) := by decide +kernel
theorem dX7_turn_67 : decode cX7_turn 67 = .ok (.pop, 1) := by decide +kernel
theorem dX7_turn_68 : decode cX7_turn 68 = .ok (.aload_n 0, 1) := by decide +kernel
theorem dX7_turn_69 : decode cX7_turn 69 = .ok (.getfield 14, 3) := by decide +kernel
theorem dX7_turn_72 : decode cX7_turn 72 = .ok (.bipush 30, 2) := by decide +kernel
theorem dX7_turn_74 : decode cX7_turn 74 = .ok (.invokevirtual 56, 3) := by decide +kernel
theorem dX7_turn_77 : decode cX7_turn 77 = .ok (.pop, 1) := by decide +kernel
theorem dX7_turn_78 : decode cX7_turn 78 = .ok (.iconst 0, 1) := by decide +kernel
theorem dX7_turn_79 : decode cX7_turn 79 = .ok (.aload_n 0, 1) := by decide +kernel
theorem dX7_turn_80 : decode cX7_turn 80 = .ok (.iload_n 1, 1) := by decide +kernel
theorem dX7_turn_81 : decode cX7_turn 81 = .ok (.iconst 1, 1) := by decide +kernel
theorem dX7_turn_82 : decode cX7_turn 82 = .ok (.iadd, 1) := by decide +kernel
theorem dX7_turn_83 : decode cX7_turn 83 = .ok (.invokevirtual 60, 3) := by decide +kernel
theorem dX7_turn_86 : decode cX7_turn 86 = .ok (.isub, 1) := by decide +kernel
theorem dX7_turn_87 : decode cX7_turn 87 = .ok (.ireturn, 1) := by decide +kernel
theorem dX7_turn_88 : decode cX7_turn 88 = .ok (.aload_n 0, 1) := by decide +kernel
theorem dX7_turn_89 : decode cX7_turn 89 = .ok (.getfield 14, 3) := by decide +kernel
theorem dX7_turn_92 : decode cX7_turn 92 = .ok (.bipush 71, 2) := by decide +kernel
theorem dX7_turn_94 : decode cX7_turn 94 = .ok (.invokevirtual 56, 3) := by decide +kernel
theorem dX7_turn_97 : decode cX7_turn 97 = .ok (.pop, 1) := by decide +kernel
theorem dX7_turn_98 : decode cX7_turn 98 = .ok (.aload_n 0, 1) := by decide +kernel
theorem dX7_turn_99 : decode cX7_turn 99 = .ok (.iload_n 1, 1) := by decide +kernel
theorem dX7_turn_100 : decode cX7_turn 100 = .ok (.invokevirtual 60, 3) := by decide +kernel
theorem dX7_turn_103 : decode cX7_turn 103 = .ok (.aload_n 0, 1) := by decide +kernel
theorem dX7_turn_104 : decode cX7_turn 104 = .ok (.getfield 24, 3) := by decide +kernel
theorem dX7_turn_107 : decode cX7_turn 107 = .ok (.iadd, 1) := by decide +kernel
theorem dX7_turn_108 : decode cX7_turn 108 = .ok (.ireturn, 1) := by decide +kernel
theorem dX7_turn_109 : decode cX7_turn 109 = .ok (.aload_n 0, 1) := by decide +kernel
theorem dX7_turn_110 : decode cX7_turn 110 = .ok (.iload_n 1, 1) := by decide +kernel
theorem dX7_turn_111 : decode cX7_turn 111 = .ok (.invokevirtual 60, 3) := by decide +kernel
theorem dX7_turn_114 : decode cX7_turn 114 = .ok (.ireturn, 1) := by decide +kernel
theorem dX7_turnAsEvening_0 : decode cX7_turnAsEvening 0 = .ok (.aload_n 0, 1) := by decide +kernel
theorem dX7_turnAsEvening_1 : decode cX7_turnAsEvening 1 = .ok (.getfield 14, 3) := by decide +kernel
theorem dX7_turnAsEvening_4 : decode cX7_turnAsEvening 4 = .ok (.bipush 11, 2) := by decide +kernel
theorem dX7_turnAsEvening_6 : decode cX7_turnAsEvening 6 = .ok (.invokevirtual 56, 3) := by decide +kernel
theorem dX7_turnAsEvening_9 : decode cX7_turnAsEvening 9 = .ok (.pop, 1) := by decide +kernel
theorem dX7_turnAsEvening_10 : decode cX7_turnAsEvening 10 = .ok (.aload_n 0, 1) := by decide +kernel
theorem dX7_turnAsEvening_11 : decode cX7_turnAsEvening 11 = .ok (.iload_n 1, 1) := by decide +kernel
theorem dX7_turnAsEvening_12 : decode cX7_turnAsEvening 12 = .ok (.invokevirtual 43, 3) := by decide +kernel
theorem dX7_turnAsEvening_15 : decode cX7_turnAsEvening 15 = .ok (.iconst 2, 1) := by decide +kernel
theorem dX7_turnAsEvening_16 : decode cX7_turnAsEvening 16 = .ok (.imul, 1) := by decide +kernel
theorem dX7_turnAsEvening_17 : decode cX7_turnAsEvening 17 = .ok (.ireturn, 1) := by decide +kernel
theorem dX7_gutter_0 : decode cX7_gutter 0 = .ok (.aload_n 0, 1) := by decide +kernel
theorem dX7_gutter_1 : decode cX7_gutter 1 = .ok (.getfield 20, 3) := by decide +kernel
theorem dX7_gutter_4 : decode cX7_gutter 4 = .ok (.lookupswitch 67 #[(3, 28), (4, 46)], 28) := by decide +kernel
theorem dX7_gutter_32 : decode cX7_gutter 32 = .ok (.aload_n 0, 1) := by decide +kernel
theorem dX7_gutter_33 : decode cX7_gutter 33 = .ok (.getfield 14, 3) := by decide +kernel
theorem dX7_gutter_36 : decode cX7_gutter 36 = .ok (.bipush 40, 2) := by decide +kernel
theorem dX7_gutter_38 : decode cX7_gutter 38 = .ok (.invokevirtual 56, 3) := by decide +kernel
theorem dX7_gutter_41 : decode cX7_gutter 41 = .ok (.pop, 1) := by decide +kernel
theorem dX7_gutter_42 : decode cX7_gutter 42 = .ok (.aload_n 0, 1) := by decide +kernel
theorem dX7_gutter_43 : decode cX7_gutter 43 = .ok (.iload_n 1, 1) := by decide +kernel
theorem dX7_gutter_44 : decode cX7_gutter 44 = .ok (.iconst 2, 1) := by decide +kernel
theorem dX7_gutter_45 : decode cX7_gutter 45 = .ok (.idiv, 1) := by decide +kernel
theorem dX7_gutter_46 : decode cX7_gutter 46 = .ok (.invokevirtual 63, 3) := by decide +kernel
theorem dX7_gutter_49 : decode cX7_gutter 49 = .ok (.ireturn, 1) := by decide +kernel
theorem dX7_gutter_50 : decode cX7_gutter 50 = .ok (.aload_n 0, 1) := by decide +kernel
theorem dX7_gutter_51 : decode cX7_gutter 51 = .ok (.getfield 14, 3) := by decide +kernel
theorem dX7_gutter_54 : decode cX7_gutter 54 = .ok (.bipush 51, 2) := by decide +kernel
theorem dX7_gutter_56 : decode cX7_gutter 56 = .ok (.invokevirtual 56, 3) := by decide +kernel
theorem dX7_gutter_59 : decode cX7_gutter 59 = .ok (.pop, 1) := by decide +kernel
theorem dX7_gutter_60 : decode cX7_gutter 60 = .ok (.aload_n 0, 1) := by decide +kernel
theorem dX7_gutter_61 : decode cX7_gutter 61 = .ok (.iload_n 1, 1) := by decide +kernel
theorem dX7_gutter_62 : decode cX7_gutter 62 = .ok (.invokevirtual 63, 3) := by decide +kernel
theorem dX7_gutter_65 : decode cX7_gutter 65 = .ok (.aload_n 0, 1) := by decide +kernel
theorem dX7_gutter_66 : decode cX7_gutter 66 = .ok (.getfield 27, 3) := by decide +kernel
theorem dX7_gutter_69 : decode cX7_gutter 69 = .ok (.ixor, 1) := by decide +kernel
theorem dX7_gutter_70 : decode cX7_gutter 70 = .ok (.ireturn, 1) := by decide +kernel
theorem dX7_gutter_71 : decode cX7_gutter 71 = .ok (.aload_n 0, 1) := by decide +kernel
theorem dX7_gutter_72 : decode cX7_gutter 72 = .ok (.iload_n 1, 1) := by decide +kernel
theorem dX7_gutter_73 : decode cX7_gutter 73 = .ok (.invokevirtual 63, 3) := by decide +kernel
theorem dX7_gutter_76 : decode cX7_gutter 76 = .ok (.ireturn, 1) := by decide +kernel
theorem dX7_gutterAsEvening_0 : decode cX7_gutterAsEvening 0 = .ok (.aload_n 0, 1) := by decide +kernel
theorem dX7_gutterAsEvening_1 : decode cX7_gutterAsEvening 1 = .ok (.getfield 14, 3) := by decide +kernel
theorem dX7_gutterAsEvening_4 : decode cX7_gutterAsEvening 4 = .ok (.bipush 12, 2) := by decide +kernel
theorem dX7_gutterAsEvening_6 : decode cX7_gutterAsEvening 6 = .ok (.invokevirtual 56, 3) := by decide +kernel
theorem dX7_gutterAsEvening_9 : decode cX7_gutterAsEvening 9 = .ok (.pop, 1) := by decide +kernel
theorem dX7_gutterAsEvening_10 : decode cX7_gutterAsEvening 10 = .ok (.aload_n 0, 1) := by decide +kernel
theorem dX7_gutterAsEvening_11 : decode cX7_gutterAsEvening 11 = .ok (.iload_n 1, 1) := by decide +kernel
theorem dX7_gutterAsEvening_12 : decode cX7_gutterAsEvening 12 = .ok (.invokevirtual 47, 3) := by decide +kernel
theorem dX7_gutterAsEvening_15 : decode cX7_gutterAsEvening 15 = .ok (.aload_n 0, 1) := by decide +kernel
theorem dX7_gutterAsEvening_16 : decode cX7_gutterAsEvening 16 = .ok (.getfield 24, 3) := by decide +kernel
theorem dX7_gutterAsEvening_19 : decode cX7_gutterAsEvening 19 = .ok (.isub, 1) := by decide +kernel
theorem dX7_gutterAsEvening_20 : decode cX7_gutterAsEvening 20 = .ok (.ireturn, 1) := by decide +kernel
theorem dX7_part_0 : decode cX7_part 0 = .ok (.aload_n 0, 1) := by decide +kernel
theorem dX7_part_1 : decode cX7_part 1 = .ok (.getfield 20, 3) := by decide +kernel
theorem dX7_part_4 : decode cX7_part 4 = .ok (.iconst 1, 1) := by decide +kernel
theorem dX7_part_5 : decode cX7_part 5 = .ok (.if_icmp .eq 11, 3) := by decide +kernel
theorem dX7_part_8 : decode cX7_part 8 = .ok (.aload_n 0, 1) := by decide +kernel
theorem dX7_part_9 : decode cX7_part 9 = .ok (.getfield 20, 3) := by decide +kernel
theorem dX7_part_12 : decode cX7_part 12 = .ok (.iconst 4, 1) := by decide +kernel
theorem dX7_part_13 : decode cX7_part 13 = .ok (.if_icmp .ne 7, 3) := by decide +kernel
theorem dX7_part_16 : decode cX7_part 16 = .ok (.iconst 1, 1) := by decide +kernel
theorem dX7_part_17 : decode cX7_part 17 = .ok (.goto 4, 3) := by decide +kernel
theorem dX7_part_20 : decode cX7_part 20 = .ok (.iconst 0, 1) := by decide +kernel
theorem dX7_part_21 : decode cX7_part 21 = .ok (.istore_n 2, 1) := by decide +kernel
theorem dX7_part_22 : decode cX7_part 22 = .ok (.iload_n 2, 1) := by decide +kernel
theorem dX7_part_23 : decode cX7_part 23 = .ok (.ifCond .eq 13, 3) := by decide +kernel
theorem dX7_part_26 : decode cX7_part 26 = .ok (.aload_n 0, 1) := by decide +kernel
theorem dX7_part_27 : decode cX7_part 27 = .ok (.getfield 14, 3) := by decide +kernel
theorem dX7_part_30 : decode cX7_part 30 = .ok (.bipush 21, 2) := by decide +kernel
theorem dX7_part_32 : decode cX7_part 32 = .ok (.invokevirtual 56, 3) := by decide +kernel
theorem dX7_part_35 : decode cX7_part 35 = .ok (.pop, 1) := by decide +kernel
theorem dX7_part_36 : decode cX7_part 36 = .ok (.aload_n 0, 1) := by decide +kernel
theorem dX7_part_37 : decode cX7_part 37 = .ok (.getfield 14, 3) := by decide +kernel
theorem dX7_part_40 : decode cX7_part 40 = .ok (.bipush 13, 2) := by decide +kernel
theorem dX7_part_42 : decode cX7_part 42 = .ok (.invokevirtual 56, 3) := by decide +kernel
theorem dX7_part_45 : decode cX7_part 45 = .ok (.pop, 1) := by decide +kernel
theorem dX7_part_46 : decode cX7_part 46 = .ok (.aload_n 0, 1) := by decide +kernel
theorem dX7_part_47 : decode cX7_part 47 = .ok (.getfield 24, 3) := by decide +kernel
theorem dX7_part_50 : decode cX7_part 50 = .ok (.aload_n 0, 1) := by decide +kernel
theorem dX7_part_51 : decode cX7_part 51 = .ok (.getfield 27, 3) := by decide +kernel
theorem dX7_part_54 : decode cX7_part 54 = .ok (.isub, 1) := by decide +kernel
theorem dX7_part_55 : decode cX7_part 55 = .ok (.ifCond .ne 10, 3) := by decide +kernel
theorem dX7_part_58 : decode cX7_part 58 = .ok (.aload_n 0, 1) := by decide +kernel
theorem dX7_part_59 : decode cX7_part 59 = .ok (.iconst 1, 1) := by decide +kernel
theorem dX7_part_60 : decode cX7_part 60 = .ok (.putfield 30, 3) := by decide +kernel
theorem dX7_part_63 : decode cX7_part 63 = .ok (.iconst 0, 1) := by decide +kernel
theorem dX7_part_64 : decode cX7_part 64 = .ok (.ireturn, 1) := by decide +kernel
theorem dX7_part_65 : decode cX7_part 65 = .ok (.iload_n 1, 1) := by decide +kernel
theorem dX7_part_66 : decode cX7_part 66 = .ok (.aload_n 0, 1) := by decide +kernel
theorem dX7_part_67 : decode cX7_part 67 = .ok (.getfield 24, 3) := by decide +kernel
theorem dX7_part_70 : decode cX7_part 70 = .ok (.aload_n 0, 1) := by decide +kernel
theorem dX7_part_71 : decode cX7_part 71 = .ok (.getfield 27, 3) := by decide +kernel
theorem dX7_part_74 : decode cX7_part 74 = .ok (.isub, 1) := by decide +kernel
theorem dX7_part_75 : decode cX7_part 75 = .ok (.idiv, 1) := by decide +kernel
theorem dX7_part_76 : decode cX7_part 76 = .ok (.istore_n 3, 1) := by decide +kernel
theorem dX7_part_77 : decode cX7_part 77 = .ok (.iload_n 2, 1) := by decide +kernel
theorem dX7_part_78 : decode cX7_part 78 = .ok (.ifCond .eq 13, 3) := by decide +kernel
theorem dX7_part_81 : decode cX7_part 81 = .ok (.iload_n 3, 1) := by decide +kernel
theorem dX7_part_82 : decode cX7_part 82 = .ok (.aload_n 0, 1) := by decide +kernel
theorem dX7_part_83 : decode cX7_part 83 = .ok (.iconst 1, 1) := by decide +kernel
theorem dX7_part_84 : decode cX7_part 84 = .ok (.invokevirtual 47, 3) := by decide +kernel
theorem dX7_part_87 : decode cX7_part 87 = .ok (.iadd, 1) := by decide +kernel
theorem dX7_part_88 : decode cX7_part 88 = .ok (.goto 4, 3) := by decide +kernel
theorem dX7_part_91 : decode cX7_part 91 = .ok (.iload_n 3, 1) := by decide +kernel
theorem dX7_part_92 : decode cX7_part 92 = .ok (.ireturn, 1) := by decide +kernel
theorem dX8_init_0 : decode cX8_init 0 = .ok (.aload_n 0, 1) := by decide +kernel
theorem dX8_init_1 : decode cX8_init 1 = .ok (.invokespecial 1, 3) := by decide +kernel
theorem dX8_init_4 : decode cX8_init 4 = .ok (.aload_n 0, 1) := by decide +kernel
theorem dX8_init_5 : decode cX8_init 5 = .ok (.new 7, 3) := by decide +kernel
theorem dX8_init_8 : decode cX8_init 8 = .ok (.dup, 1) := by decide +kernel
theorem dX8_init_9 : decode cX8_init 9 = .ok (.invokespecial 9, 3) := by decide +kernel
theorem dX8_init_12 : decode cX8_init 12 = .ok (.putfield 10, 3) := by decide +kernel
theorem dX8_init_15 : decode cX8_init 15 = .ok (.aload_n 0, 1) := by decide +kernel
theorem dX8_init_16 : decode cX8_init 16 = .ok (.new 7, 3) := by decide +kernel
theorem dX8_init_19 : decode cX8_init 19 = .ok (.dup, 1) := by decide +kernel
theorem dX8_init_20 : decode cX8_init 20 = .ok (.invokespecial 9, 3) := by decide +kernel
theorem dX8_init_23 : decode cX8_init 23 = .ok (.putfield 16, 3) := by decide +kernel
theorem dX8_init_26 : decode cX8_init 26 = .ok (.aload_n 0, 1) := by decide +kernel
theorem dX8_init_27 : decode cX8_init 27 = .ok (.new 7, 3) := by decide +kernel
theorem dX8_init_30 : decode cX8_init 30 = .ok (.dup, 1) := by decide +kernel
theorem dX8_init_31 : decode cX8_init 31 = .ok (.invokespecial 9, 3) := by decide +kernel
theorem dX8_init_34 : decode cX8_init 34 = .ok (.putfield 19, 3) := by decide +kernel
theorem dX8_init_37 : decode cX8_init 37 = .ok (.aload_n 0, 1) := by decide +kernel
theorem dX8_init_38 : decode cX8_init 38 = .ok (.new 22, 3) := by decide +kernel
theorem dX8_init_41 : decode cX8_init 41 = .ok (.dup, 1) := by decide +kernel
theorem dX8_init_42 : decode cX8_init 42 = .ok (.invokespecial 24, 3) := by decide +kernel
theorem dX8_init_45 : decode cX8_init 45 = .ok (.putfield 25, 3) := by decide +kernel
theorem dX8_init_48 : decode cX8_init 48 = .ok (.aload_n 0, 1) := by decide +kernel
theorem dX8_init_49 : decode cX8_init 49 = .ok (.new 29, 3) := by decide +kernel
theorem dX8_init_52 : decode cX8_init 52 = .ok (.dup, 1) := by decide +kernel
theorem dX8_init_53 : decode cX8_init 53 = .ok (.bipush 60, 2) := by decide +kernel
theorem dX8_init_55 : decode cX8_init 55 = .ok (.invokespecial 31, 3) := by decide +kernel
theorem dX8_init_58 : decode cX8_init 58 = .ok (.putfield 34, 3) := by decide +kernel
theorem dX8_init_61 : decode cX8_init 61 = .ok (.aload_n 0, 1) := by decide +kernel
theorem dX8_init_62 : decode cX8_init 62 = .ok (.new 29, 3) := by decide +kernel
theorem dX8_init_65 : decode cX8_init 65 = .ok (.dup, 1) := by decide +kernel
theorem dX8_init_66 : decode cX8_init 66 = .ok (.bipush 60, 2) := by decide +kernel
theorem dX8_init_68 : decode cX8_init 68 = .ok (.invokespecial 31, 3) := by decide +kernel
theorem dX8_init_71 : decode cX8_init 71 = .ok (.putfield 38, 3) := by decide +kernel
theorem dX8_init_74 : decode cX8_init 74 = .ok (.aload_n 0, 1) := by decide +kernel
theorem dX8_init_75 : decode cX8_init 75 = .ok (.new 29, 3) := by decide +kernel
theorem dX8_init_78 : decode cX8_init 78 = .ok (.dup, 1) := by decide +kernel
theorem dX8_init_79 : decode cX8_init 79 = .ok (.bipush 24, 2) := by decide +kernel
theorem dX8_init_81 : decode cX8_init 81 = .ok (.invokespecial 31, 3) := by decide +kernel
theorem dX8_init_84 : decode cX8_init 84 = .ok (.putfield 41, 3) := by decide +kernel
theorem dX8_init_87 : decode cX8_init 87 = .ok (.aload_n 0, 1) := by decide +kernel
theorem dX8_init_88 : decode cX8_init 88 = .ok (.new 29, 3) := by decide +kernel
theorem dX8_init_91 : decode cX8_init 91 = .ok (.dup, 1) := by decide +kernel
theorem dX8_init_92 : decode cX8_init 92 = .ok (.bipush 24, 2) := by decide +kernel
theorem dX8_init_94 : decode cX8_init 94 = .ok (.invokespecial 31, 3) := by decide +kernel
theorem dX8_init_97 : decode cX8_init 97 = .ok (.putfield 44, 3) := by decide +kernel
theorem dX8_init_100 : decode cX8_init 100 = .ok (.aload_n 0, 1) := by decide +kernel
theorem dX8_init_101 : decode cX8_init 101 = .ok (.new 47, 3) := by decide +kernel
theorem dX8_init_104 : decode cX8_init 104 = .ok (.dup, 1) := by decide +kernel
theorem dX8_init_105 : decode cX8_init 105 = .ok (.invokespecial 49, 3) := by decide +kernel
theorem dX8_init_108 : decode cX8_init 108 = .ok (.putfield 50, 3) := by decide +kernel
theorem dX8_init_111 : decode cX8_init 111 = .ok (.aload_n 0, 1) := by decide +kernel
theorem dX8_init_112 : decode cX8_init 112 = .ok (.new 54, 3) := by decide +kernel
theorem dX8_init_115 : decode cX8_init 115 = .ok (.dup, 1) := by decide +kernel
theorem dX8_init_116 : decode cX8_init 116 = .ok (.invokespecial 56, 3) := by decide +kernel
theorem dX8_init_119 : decode cX8_init 119 = .ok (.putfield 57, 3) := by decide +kernel
theorem dX8_init_122 : decode cX8_init 122 = .ok (.aload_n 0, 1) := by decide +kernel
theorem dX8_init_123 : decode cX8_init 123 = .ok (.iconst 4, 1) := by decide +kernel
theorem dX8_init_124 : decode cX8_init 124 = .ok (.anewarray 61, 3) := by decide +kernel
theorem dX8_init_127 : decode cX8_init 127 = .ok (.putfield 63, 3) := by decide +kernel
theorem dX8_init_130 : decode cX8_init 130 = .ok (.aload_n 0, 1) := by decide +kernel
theorem dX8_init_131 : decode cX8_init 131 = .ok (.bipush 7, 2) := by decide +kernel
theorem dX8_init_133 : decode cX8_init 133 = .ok (.newarray .int, 2) := by decide +kernel
theorem dX8_init_135 : decode cX8_init 135 = .ok (.putfield 67, 3) := by decide +kernel
theorem dX8_init_138 : decode cX8_init 138 = .ok (.aload_n 0, 1) := by decide +kernel
theorem dX8_init_139 : decode cX8_init 139 = .ok (.iconst 0, 1) := by decide +kernel
theorem dX8_init_140 : decode cX8_init 140 = .ok (.putfield 71, 3) := by decide +kernel
theorem dX8_init_143 : decode cX8_init 143 = .ok (.iconst 0, 1) := by decide +kernel
theorem dX8_init_144 : decode cX8_init 144 = .ok (.istore_n 1, 1) := by decide +kernel
theorem dX8_init_145 : decode cX8_init 145 = .ok (.iload_n 1, 1) := by decide +kernel
theorem dX8_init_146 : decode cX8_init 146 = .ok (.aload_n 0, 1) := by decide +kernel
theorem dX8_init_147 : decode cX8_init 147 = .ok (.getfield 63, 3) := by decide +kernel
theorem dX8_init_150 : decode cX8_init 150 = .ok (.arraylength, 1) := by decide +kernel
theorem dX8_init_151 : decode cX8_init 151 = .ok (.if_icmp .ge 22, 3) := by decide +kernel
theorem dX8_init_154 : decode cX8_init 154 = .ok (.aload_n 0, 1) := by decide +kernel
theorem dX8_init_155 : decode cX8_init 155 = .ok (.getfield 63, 3) := by decide +kernel
theorem dX8_init_158 : decode cX8_init 158 = .ok (.iload_n 1, 1) := by decide +kernel
theorem dX8_init_159 : decode cX8_init 159 = .ok (.new 61, 3) := by decide +kernel
theorem dX8_init_162 : decode cX8_init 162 = .ok (.dup, 1) := by decide +kernel
theorem dX8_init_163 : decode cX8_init 163 = .ok (.invokespecial 75, 3) := by decide +kernel
theorem dX8_init_166 : decode cX8_init 166 = .ok (.aastore, 1) := by decide +kernel
theorem dX8_init_167 : decode cX8_init 167 = .ok (.iinc 1 1, 3) := by decide +kernel
theorem dX8_init_170 : decode cX8_init 170 = .ok (.goto (-25), 3) := by decide +kernel
theorem dX8_init_173 : decode cX8_init 173 = .ok (.return_, 1) := by decide +kernel
theorem dX8_memory_0 : decode cX8_memory 0 = .ok (.iload_n 1, 1) := by decide +kernel
theorem dX8_memory_1 : decode cX8_memory 1 = .ok (.invokestatic 76, 3) := by decide +kernel
theorem dX8_memory_4 : decode cX8_memory 4 = .ok (.ifCond .eq 24, 3) := by decide +kernel
theorem dX8_memory_7 : decode cX8_memory 7 = .ok (.iload_n 2, 1) := by decide +kernel
theorem dX8_memory_8 : decode cX8_memory 8 = .ok (.iconst 1, 1) := by decide +kernel
theorem dX8_memory_9 : decode cX8_memory 9 = .ok (.bipush 15, 2) := by decide +kernel
theorem dX8_memory_11 : decode cX8_memory 11 = .ok (.invokestatic 80, 3) := by decide +kernel
theorem dX8_memory_14 : decode cX8_memory 14 = .ok (.ifCond .eq 14, 3) := by decide +kernel
theorem dX8_memory_17 : decode cX8_memory 17 = .ok (.iload_n 3, 1) := by decide +kernel
theorem dX8_memory_18 : decode cX8_memory 18 = .ok (.iconst 0, 1) := by decide +kernel
theorem dX8_memory_19 : decode cX8_memory 19 = .ok (.sipush 9999, 3) := by decide +kernel
theorem dX8_memory_22 : decode cX8_memory 22 = .ok (.invokestatic 80, 3) := by decide +kernel
theorem dX8_memory_25 : decode cX8_memory 25 = .ok (.ifCond .ne 9, 3) := by decide +kernel
theorem dX8_memory_28 : decode cX8_memory 28 = .ok (.aload_n 0, 1) := by decide +kernel
theorem dX8_memory_29 : decode cX8_memory 29 = .ok (.iconst 1, 1) := by decide +kernel
theorem dX8_memory_30 : decode cX8_memory 30 = .ok (.invokevirtual 84, 3) := by decide +kernel
theorem dX8_memory_33 : decode cX8_memory 33 = .ok (.ireturn, 1) := by decide +kernel
theorem dX8_memory_34 : decode cX8_memory 34 = .ok (.aload_n 0, 1) := by decide +kernel
theorem dX8_memory_35 : decode cX8_memory 35 = .ok (.getfield 10, 3) := by decide +kernel
theorem dX8_memory_38 : decode cX8_memory 38 = .ok (.invokevirtual 88, 3) := by decide +kernel
theorem dX8_memory_41 : decode cX8_memory 41 = .ok (.ifCond .eq 9, 3) := by decide +kernel
theorem dX8_memory_44 : decode cX8_memory 44 = .ok (.aload_n 0, 1) := by decide +kernel
theorem dX8_memory_45 : decode cX8_memory 45 = .ok (.iconst 4, 1) := by decide +kernel
theorem dX8_memory_46 : decode cX8_memory 46 = .ok (.invokevirtual 84, 3) := by decide +kernel
theorem dX8_memory_49 : decode cX8_memory 49 = .ok (.ireturn, 1) := by decide +kernel
theorem dX8_memory_50 : decode cX8_memory 50 = .ok (.aload_n 0, 1) := by decide +kernel
theorem dX8_memory_51 : decode cX8_memory 51 = .ok (.getfield 10, 3) := by decide +kernel
theorem dX8_memory_54 : decode cX8_memory 54 = .ok (.iload_n 1, 1) := by decide +kernel
theorem dX8_memory_55 : decode cX8_memory 55 = .ok (.iload_n 2, 1) := by decide +kernel
theorem dX8_memory_56 : decode cX8_memory 56 = .ok (.iload_n 3, 1) := by decide +kernel
theorem dX8_memory_57 : decode cX8_memory 57 = .ok (.invokevirtual 92, 3) := by decide +kernel
theorem dX8_memory_60 : decode cX8_memory 60 = .ok (.ireturn, 1) := by decide +kernel
theorem dX8_memoryIs_0 : decode cX8_memoryIs 0 = .ok (.aload_n 0, 1) := by decide +kernel
theorem dX8_memoryIs_1 : decode cX8_memoryIs 1 = .ok (.getfield 10, 3) := by decide +kernel
theorem dX8_memoryIs_4 : decode cX8_memoryIs 4 = .ok (.iload_n 1, 1) := by decide +kernel
theorem dX8_memoryIs_5 : decode cX8_memoryIs 5 = .ok (.invokevirtual 96, 3) := by decide +kernel
theorem dX8_memoryIs_8 : decode cX8_memoryIs 8 = .ok (.astore_n 3, 1) := by decide +kernel
theorem dX8_memoryIs_9 : decode cX8_memoryIs 9 = .ok (.aload_n 3, 1) := by decide +kernel
theorem dX8_memoryIs_10 : decode cX8_memoryIs 10 = .ok (.ifnonnull 9, 3) := by decide +kernel
theorem dX8_memoryIs_13 : decode cX8_memoryIs 13 = .ok (.aload_n 0, 1) := by decide +kernel
theorem dX8_memoryIs_14 : decode cX8_memoryIs 14 = .ok (.iconst 1, 1) := by decide +kernel
theorem dX8_memoryIs_15 : decode cX8_memoryIs 15 = .ok (.invokevirtual 84, 3) := by decide +kernel
theorem dX8_memoryIs_18 : decode cX8_memoryIs 18 = .ok (.ireturn, 1) := by decide +kernel
theorem dX8_memoryIs_19 : decode cX8_memoryIs 19 = .ok (.iload_n 2, 1) := by decide +kernel
theorem dX8_memoryIs_20 : decode cX8_memoryIs 20 = .ok (.tableswitch 90 0 6 #[44, 49, 54, 59, 64, 69, 78], 44) := by decide +kernel
theorem dX8_memoryIs_64 : decode cX8_memoryIs 64 = .ok (.aload_n 3, 1) := by decide +kernel
theorem dX8_memoryIs_65 : decode cX8_memoryIs 65 = .ok (.getfield 100, 3) := by decide +kernel
theorem dX8_memoryIs_68 : decode cX8_memoryIs 68 = .ok (.ireturn, 1) := by decide +kernel
theorem dX8_memoryIs_69 : decode cX8_memoryIs 69 = .ok (.aload_n 3, 1) := by decide +kernel
theorem dX8_memoryIs_70 : decode cX8_memoryIs 70 = .ok (.getfield 105, 3) := by decide +kernel
theorem dX8_memoryIs_73 : decode cX8_memoryIs 73 = .ok (.ireturn, 1) := by decide +kernel
theorem dX8_memoryIs_74 : decode cX8_memoryIs 74 = .ok (.aload_n 3, 1) := by decide +kernel
theorem dX8_memoryIs_75 : decode cX8_memoryIs 75 = .ok (.getfield 108, 3) := by decide +kernel
theorem dX8_memoryIs_78 : decode cX8_memoryIs 78 = .ok (.ireturn, 1) := by decide +kernel
theorem dX8_memoryIs_79 : decode cX8_memoryIs 79 = .ok (.aload_n 3, 1) := by decide +kernel
theorem dX8_memoryIs_80 : decode cX8_memoryIs 80 = .ok (.getfield 111, 3) := by decide +kernel
theorem dX8_memoryIs_83 : decode cX8_memoryIs 83 = .ok (.ireturn, 1) := by decide +kernel
theorem dX8_memoryIs_84 : decode cX8_memoryIs 84 = .ok (.aload_n 3, 1) := by decide +kernel
theorem dX8_memoryIs_85 : decode cX8_memoryIs 85 = .ok (.getfield 114, 3) := by decide +kernel
theorem dX8_memoryIs_88 : decode cX8_memoryIs 88 = .ok (.ireturn, 1) := by decide +kernel
theorem dX8_memoryIs_89 : decode cX8_memoryIs 89 = .ok (.aload_n 0, 1) := by decide +kernel
theorem dX8_memoryIs_90 : decode cX8_memoryIs 90 = .ok (.getfield 10, 3) := by decide +kernel
theorem dX8_memoryIs_93 : decode cX8_memoryIs 93 = .ok (.aload_n 3, 1) := by decide +kernel
theorem dX8_memoryIs_94 : decode cX8_memoryIs 94 = .ok (.invokevirtual 117, 3) := by decide +kernel
theorem dX8_memoryIs_97 : decode cX8_memoryIs 97 = .ok (.ireturn, 1) := by decide +kernel
theorem dX8_memoryIs_98 : decode cX8_memoryIs 98 = .ok (.aload_n 3, 1) := by decide +kernel
theorem dX8_memoryIs_99 : decode cX8_memoryIs 99 = .ok (.aload_n 0, 1) := by decide +kernel
theorem dX8_memoryIs_100 : decode cX8_memoryIs 100 = .ok (.getfield 10, 3) := by decide +kernel
theorem dX8_memoryIs_103 : decode cX8_memoryIs 103 = .ok (.getfield 121, 3) := by decide +kernel
theorem dX8_memoryIs_106 : decode cX8_memoryIs 106 = .ok (.invokevirtual 124, 3) := by decide +kernel
theorem dX8_memoryIs_109 : decode cX8_memoryIs 109 = .ok (.ireturn, 1) := by decide +kernel
theorem dX8_memoryIs_110 : decode cX8_memoryIs 110 = .ok (.aload_n 0, 1) := by decide +kernel
theorem dX8_memoryIs_111 : decode cX8_memoryIs 111 = .ok (.iconst 1, 1) := by decide +kernel
theorem dX8_memoryIs_112 : decode cX8_memoryIs 112 = .ok (.invokevirtual 84, 3) := by decide +kernel
theorem dX8_memoryIs_115 : decode cX8_memoryIs 115 = .ok (.ireturn, 1) := by decide +kernel
theorem dX8_become_0 : decode cX8_become 0 = .ok (.aload_n 0, 1) := by decide +kernel
theorem dX8_become_1 : decode cX8_become 1 = .ok (.getfield 10, 3) := by decide +kernel
theorem dX8_become_4 : decode cX8_become 4 = .ok (.iload_n 1, 1) := by decide +kernel
theorem dX8_become_5 : decode cX8_become 5 = .ok (.invokevirtual 96, 3) := by decide +kernel
theorem dX8_become_8 : decode cX8_become 8 = .ok (.astore_n 3, 1) := by decide +kernel
theorem dX8_become_9 : decode cX8_become 9 = .ok (.aload_n 3, 1) := by decide +kernel
theorem dX8_become_10 : decode cX8_become 10 = .ok (.ifnull 10, 3) := by decide +kernel
theorem dX8_become_13 : decode cX8_become 13 = .ok (.iload_n 2, 1) := by decide +kernel
theorem dX8_become_14 : decode cX8_become 14 = .ok (.invokestatic 76, 3) := by decide +kernel
theorem dX8_become_17 : decode cX8_become 17 = .ok (.ifCond .ne 9, 3) := by decide +kernel
theorem dX8_become_20 : decode cX8_become 20 = .ok (.aload_n 0, 1) := by decide +kernel
theorem dX8_become_21 : decode cX8_become 21 = .ok (.iconst 1, 1) := by decide +kernel
theorem dX8_become_22 : decode cX8_become 22 = .ok (.invokevirtual 84, 3) := by decide +kernel
theorem dX8_become_25 : decode cX8_become 25 = .ok (.ireturn, 1) := by decide +kernel
theorem dX8_become_26 : decode cX8_become 26 = .ok (.aload_n 3, 1) := by decide +kernel
theorem dX8_become_27 : decode cX8_become 27 = .ok (.getfield 100, 3) := by decide +kernel
theorem dX8_become_30 : decode cX8_become 30 = .ok (.istore 4, 2) := by decide +kernel
theorem dX8_become_32 : decode cX8_become 32 = .ok (.aload_n 3, 1) := by decide +kernel
theorem dX8_become_33 : decode cX8_become 33 = .ok (.iload_n 2, 1) := by decide +kernel
theorem dX8_become_34 : decode cX8_become 34 = .ok (.bipush 10, 2) := by decide +kernel
theorem dX8_become_36 : decode cX8_become 36 = .ok (.idiv, 1) := by decide +kernel
theorem dX8_become_37 : decode cX8_become 37 = .ok (.putfield 100, 3) := by decide +kernel
theorem dX8_become_40 : decode cX8_become 40 = .ok (.aload_n 3, 1) := by decide +kernel
theorem dX8_become_41 : decode cX8_become 41 = .ok (.iload_n 2, 1) := by decide +kernel
theorem dX8_become_42 : decode cX8_become 42 = .ok (.bipush 10, 2) := by decide +kernel
theorem dX8_become_44 : decode cX8_become 44 = .ok (.irem, 1) := by decide +kernel
theorem dX8_become_45 : decode cX8_become 45 = .ok (.putfield 105, 3) := by decide +kernel
theorem dX8_become_48 : decode cX8_become 48 = .ok (.iload 4, 2) := by decide +kernel
theorem dX8_become_50 : decode cX8_become 50 = .ok (.ireturn, 1) := by decide +kernel
theorem dX8_as_0 : decode cX8_as 0 = .ok (.aload_n 0, 1) := by decide +kernel
theorem dX8_as_1 : decode cX8_as 1 = .ok (.getfield 10, 3) := by decide +kernel
theorem dX8_as_4 : decode cX8_as 4 = .ok (.iload_n 1, 1) := by decide +kernel
theorem dX8_as_5 : decode cX8_as 5 = .ok (.invokevirtual 96, 3) := by decide +kernel
theorem dX8_as_8 : decode cX8_as 8 = .ok (.astore_n 3, 1) := by decide +kernel
theorem dX8_as_9 : decode cX8_as 9 = .ok (.aload_n 3, 1) := by decide +kernel
theorem dX8_as_10 : decode cX8_as 10 = .ok (.ifnull 13, 3) := by decide +kernel
theorem dX8_as_13 : decode cX8_as 13 = .ok (.iload_n 2, 1) := by decide +kernel
theorem dX8_as_14 : decode cX8_as 14 = .ok (.iconst 0, 1) := by decide +kernel
theorem dX8_as_15 : decode cX8_as 15 = .ok (.bipush 6, 2) := by decide +kernel
theorem dX8_as_17 : decode cX8_as 17 = .ok (.invokestatic 80, 3) := by decide +kernel
theorem dX8_as_20 : decode cX8_as 20 = .ok (.ifCond .ne 9, 3) := by decide +kernel
theorem dX8_as_23 : decode cX8_as 23 = .ok (.aload_n 0, 1) := by decide +kernel
theorem dX8_as_24 : decode cX8_as 24 = .ok (.iconst 1, 1) := by decide +kernel
theorem dX8_as_25 : decode cX8_as 25 = .ok (.invokevirtual 84, 3) := by decide +kernel
theorem dX8_as_28 : decode cX8_as 28 = .ok (.ireturn, 1) := by decide +kernel
theorem dX8_as_29 : decode cX8_as 29 = .ok (.aload_n 3, 1) := by decide +kernel
theorem dX8_as_30 : decode cX8_as 30 = .ok (.iload_n 2, 1) := by decide +kernel
theorem dX8_as_31 : decode cX8_as 31 = .ok (.invokevirtual 127, 3) := by decide +kernel
theorem dX8_as_34 : decode cX8_as 34 = .ok (.ifCond .ne 9, 3) := by decide +kernel
theorem dX8_as_37 : decode cX8_as 37 = .ok (.aload_n 0, 1) := by decide +kernel
theorem dX8_as_38 : decode cX8_as 38 = .ok (.iconst 5, 1) := by decide +kernel
theorem dX8_as_39 : decode cX8_as 39 = .ok (.invokevirtual 84, 3) := by decide +kernel
theorem dX8_as_42 : decode cX8_as 42 = .ok (.ireturn, 1) := by decide +kernel
theorem dX8_as_43 : decode cX8_as 43 = .ok (.aload_n 3, 1) := by decide +kernel
theorem dX8_as_44 : decode cX8_as 44 = .ok (.getfield 105, 3) := by decide +kernel
theorem dX8_as_47 : decode cX8_as 47 = .ok (.ireturn, 1) := by decide +kernel
theorem dX8_fills_0 : decode cX8_fills 0 = .ok (.aload_n 0, 1) := by decide +kernel
theorem dX8_fills_1 : decode cX8_fills 1 = .ok (.getfield 10, 3) := by decide +kernel
theorem dX8_fills_4 : decode cX8_fills 4 = .ok (.iload_n 1, 1) := by decide +kernel
theorem dX8_fills_5 : decode cX8_fills 5 = .ok (.invokevirtual 96, 3) := by decide +kernel
theorem dX8_fills_8 : decode cX8_fills 8 = .ok (.astore_n 3, 1) := by decide +kernel
theorem dX8_fills_9 : decode cX8_fills 9 = .ok (.aload_n 3, 1) := by decide +kernel
theorem dX8_fills_10 : decode cX8_fills 10 = .ok (.ifnull 13, 3) := by decide +kernel
theorem dX8_fills_13 : decode cX8_fills 13 = .ok (.iload_n 2, 1) := by decide +kernel
theorem dX8_fills_14 : decode cX8_fills 14 = .ok (.iconst 0, 1) := by decide +kernel
theorem dX8_fills_15 : decode cX8_fills 15 = .ok (.bipush 99, 2) := by decide +kernel
theorem dX8_fills_17 : decode cX8_fills 17 = .ok (.invokestatic 80, 3) := by decide +kernel
theorem dX8_fills_20 : decode cX8_fills 20 = .ok (.ifCond .ne 9, 3) := by decide +kernel
theorem dX8_fills_23 : decode cX8_fills 23 = .ok (.aload_n 0, 1) := by decide +kernel
theorem dX8_fills_24 : decode cX8_fills 24 = .ok (.iconst 1, 1) := by decide +kernel
theorem dX8_fills_25 : decode cX8_fills 25 = .ok (.invokevirtual 84, 3) := by decide +kernel
theorem dX8_fills_28 : decode cX8_fills 28 = .ok (.ireturn, 1) := by decide +kernel
theorem dX8_fills_29 : decode cX8_fills 29 = .ok (.aload_n 3, 1) := by decide +kernel
theorem dX8_fills_30 : decode cX8_fills 30 = .ok (.getfield 111, 3) := by decide +kernel
theorem dX8_fills_33 : decode cX8_fills 33 = .ok (.istore 4, 2) := by decide +kernel
theorem dX8_fills_35 : decode cX8_fills 35 = .ok (.aload_n 3, 1) := by decide +kernel
theorem dX8_fills_36 : decode cX8_fills 36 = .ok (.iload_n 2, 1) := by decide +kernel
theorem dX8_fills_37 : decode cX8_fills 37 = .ok (.putfield 111, 3) := by decide +kernel
theorem dX8_fills_40 : decode cX8_fills 40 = .ok (.iload 4, 2) := by decide +kernel
theorem dX8_fills_42 : decode cX8_fills 42 = .ok (.ireturn, 1) := by decide +kernel
theorem dX8_dear_0 : decode cX8_dear 0 = .ok (.aload_n 0, 1) := by decide +kernel
theorem dX8_dear_1 : decode cX8_dear 1 = .ok (.getfield 10, 3) := by decide +kernel
theorem dX8_dear_4 : decode cX8_dear 4 = .ok (.iload_n 1, 1) := by decide +kernel
theorem dX8_dear_5 : decode cX8_dear 5 = .ok (.invokevirtual 96, 3) := by decide +kernel
theorem dX8_dear_8 : decode cX8_dear 8 = .ok (.astore_n 3, 1) := by decide +kernel
theorem dX8_dear_9 : decode cX8_dear 9 = .ok (.aload_n 3, 1) := by decide +kernel
theorem dX8_dear_10 : decode cX8_dear 10 = .ok (.ifnull 13, 3) := by decide +kernel
theorem dX8_dear_13 : decode cX8_dear 13 = .ok (.iload_n 2, 1) := by decide +kernel
theorem dX8_dear_14 : decode cX8_dear 14 = .ok (.iconst 0, 1) := by decide +kernel
theorem dX8_dear_15 : decode cX8_dear 15 = .ok (.bipush 99, 2) := by decide +kernel
theorem dX8_dear_17 : decode cX8_dear 17 = .ok (.invokestatic 80, 3) := by decide +kernel
theorem dX8_dear_20 : decode cX8_dear 20 = .ok (.ifCond .ne 9, 3) := by decide +kernel
theorem dX8_dear_23 : decode cX8_dear 23 = .ok (.aload_n 0, 1) := by decide +kernel
theorem dX8_dear_24 : decode cX8_dear 24 = .ok (.iconst 1, 1) := by decide +kernel
theorem dX8_dear_25 : decode cX8_dear 25 = .ok (.invokevirtual 84, 3) := by decide +kernel
theorem dX8_dear_28 : decode cX8_dear 28 = .ok (.ireturn, 1) := by decide +kernel
theorem dX8_dear_29 : decode cX8_dear 29 = .ok (.aload_n 3, 1) := by decide +kernel
theorem dX8_dear_30 : decode cX8_dear 30 = .ok (.getfield 114, 3) := by decide +kernel
theorem dX8_dear_33 : decode cX8_dear 33 = .ok (.istore 4, 2) := by decide +kernel
theorem dX8_dear_35 : decode cX8_dear 35 = .ok (.aload_n 3, 1) := by decide +kernel
theorem dX8_dear_36 : decode cX8_dear 36 = .ok (.iload_n 2, 1) := by decide +kernel
theorem dX8_dear_37 : decode cX8_dear 37 = .ok (.putfield 114, 3) := by decide +kernel
theorem dX8_dear_40 : decode cX8_dear 40 = .ok (.iload 4, 2) := by decide +kernel
theorem dX8_dear_42 : decode cX8_dear 42 = .ok (.ireturn, 1) := by decide +kernel
theorem dX8_trim_0 : decode cX8_trim 0 = .ok (.aload_n 0, 1) := by decide +kernel
theorem dX8_trim_1 : decode cX8_trim 1 = .ok (.getfield 10, 3) := by decide +kernel
theorem dX8_trim_4 : decode cX8_trim 4 = .ok (.iload_n 1, 1) := by decide +kernel
theorem dX8_trim_5 : decode cX8_trim 5 = .ok (.invokevirtual 96, 3) := by decide +kernel
theorem dX8_trim_8 : decode cX8_trim 8 = .ok (.astore_n 3, 1) := by decide +kernel
theorem dX8_trim_9 : decode cX8_trim 9 = .ok (.aload_n 3, 1) := by decide +kernel
theorem dX8_trim_10 : decode cX8_trim 10 = .ok (.ifnull 10, 3) := by decide +kernel
theorem dX8_trim_13 : decode cX8_trim 13 = .ok (.iload_n 2, 1) := by decide +kernel
theorem dX8_trim_14 : decode cX8_trim 14 = .ok (.invokestatic 130, 3) := by decide +kernel
theorem dX8_trim_17 : decode cX8_trim 17 = .ok (.ifCond .ne 9, 3) := by decide +kernel
theorem dX8_trim_20 : decode cX8_trim 20 = .ok (.aload_n 0, 1) := by decide +kernel
theorem dX8_trim_21 : decode cX8_trim 21 = .ok (.iconst 1, 1) := by decide +kernel
theorem dX8_trim_22 : decode cX8_trim 22 = .ok (.invokevirtual 84, 3) := by decide +kernel
theorem dX8_trim_25 : decode cX8_trim 25 = .ok (.ireturn, 1) := by decide +kernel
theorem dX8_trim_26 : decode cX8_trim 26 = .ok (.iconst 1, 1) := by decide +kernel
theorem dX8_trim_27 : decode cX8_trim 27 = .ok (.iload_n 2, 1) := by decide +kernel
theorem dX8_trim_28 : decode cX8_trim 28 = .ok (.ishl, 1) := by decide +kernel
theorem dX8_trim_29 : decode cX8_trim 29 = .ok (.istore 4, 2) := by decide +kernel
theorem dX8_trim_31 : decode cX8_trim 31 = .ok (.aload_n 3, 1) := by decide +kernel
theorem dX8_trim_32 : decode cX8_trim 32 = .ok (.getfield 108, 3) := by decide +kernel
theorem dX8_trim_35 : decode cX8_trim 35 = .ok (.iload 4, 2) := by decide +kernel
theorem dX8_trim_37 : decode cX8_trim 37 = .ok (.if_icmp .ne 9, 3) := by decide +kernel
theorem dX8_trim_40 : decode cX8_trim 40 = .ok (.aload_n 0, 1) := by decide +kernel
theorem dX8_trim_41 : decode cX8_trim 41 = .ok (.iconst 3, 1) := by decide +kernel
theorem dX8_trim_42 : decode cX8_trim 42 = .ok (.invokevirtual 84, 3) := by decide +kernel
theorem dX8_trim_45 : decode cX8_trim 45 = .ok (.ireturn, 1) := by decide +kernel
theorem dX8_trim_46 : decode cX8_trim 46 = .ok (.aload_n 3, 1) := by decide +kernel
theorem dX8_trim_47 : decode cX8_trim 47 = .ok (.getfield 108, 3) := by decide +kernel
theorem dX8_trim_50 : decode cX8_trim 50 = .ok (.iload 4, 2) := by decide +kernel
theorem dX8_trim_52 : decode cX8_trim 52 = .ok (.iand, 1) := by decide +kernel
theorem dX8_trim_53 : decode cX8_trim 53 = .ok (.ifCond .eq 7, 3) := by decide +kernel
theorem dX8_trim_56 : decode cX8_trim 56 = .ok (.iconst 1, 1) := by decide +kernel
theorem dX8_trim_57 : decode cX8_trim 57 = .ok (.goto 4, 3) := by decide +kernel
theorem dX8_trim_60 : decode cX8_trim 60 = .ok (.iconst 0, 1) := by decide +kernel
theorem dX8_trim_61 : decode cX8_trim 61 = .ok (.istore 5, 2) := by decide +kernel
theorem dX8_trim_63 : decode cX8_trim 63 = .ok (.aload_n 3, 1) := by decide +kernel
theorem dX8_trim_64 : decode cX8_trim 64 = .ok (.dup, 1) := by decide +kernel
theorem dX8_trim_65 : decode cX8_trim 65 = .ok (.getfield 108, 3) := by decide +kernel
theorem dX8_trim_68 : decode cX8_trim 68 = .ok (.iload 4, 2) := by decide +kernel
theorem dX8_trim_70 : decode cX8_trim 70 = .ok (.iconst (-1), 1) := by decide +kernel
theorem dX8_trim_71 : decode cX8_trim 71 = .ok (.ixor, 1) := by decide +kernel
theorem dX8_trim_72 : decode cX8_trim 72 = .ok (.iand, 1) := by decide +kernel
theorem dX8_trim_73 : decode cX8_trim 73 = .ok (.putfield 108, 3) := by decide +kernel
theorem dX8_trim_76 : decode cX8_trim 76 = .ok (.iload 5, 2) := by decide +kernel
theorem dX8_trim_78 : decode cX8_trim 78 = .ok (.ireturn, 1) := by decide +kernel
theorem dX8_tells_0 : decode cX8_tells 0 = .ok (.aload_n 0, 1) := by decide +kernel
theorem dX8_tells_1 : decode cX8_tells 1 = .ok (.getfield 10, 3) := by decide +kernel
theorem dX8_tells_4 : decode cX8_tells 4 = .ok (.iload_n 1, 1) := by decide +kernel
theorem dX8_tells_5 : decode cX8_tells 5 = .ok (.invokevirtual 96, 3) := by decide +kernel
theorem dX8_tells_8 : decode cX8_tells 8 = .ok (.astore_n 3, 1) := by decide +kernel
theorem dX8_tells_9 : decode cX8_tells 9 = .ok (.aload_n 3, 1) := by decide +kernel
theorem dX8_tells_10 : decode cX8_tells 10 = .ok (.ifnull 10, 3) := by decide +kernel
theorem dX8_tells_13 : decode cX8_tells 13 = .ok (.iload_n 2, 1) := by decide +kernel
theorem dX8_tells_14 : decode cX8_tells 14 = .ok (.invokestatic 130, 3) := by decide +kernel
theorem dX8_tells_17 : decode cX8_tells 17 = .ok (.ifCond .ne 9, 3) := by decide +kernel
theorem dX8_tells_20 : decode cX8_tells 20 = .ok (.aload_n 0, 1) := by decide +kernel
theorem dX8_tells_21 : decode cX8_tells 21 = .ok (.iconst 1, 1) := by decide +kernel
theorem dX8_tells_22 : decode cX8_tells 22 = .ok (.invokevirtual 84, 3) := by decide +kernel
theorem dX8_tells_25 : decode cX8_tells 25 = .ok (.ireturn, 1) := by decide +kernel
theorem dX8_tells_26 : decode cX8_tells 26 = .ok (.iconst 1, 1) := by decide +kernel
theorem dX8_tells_27 : decode cX8_tells 27 = .ok (.iload_n 2, 1) := by decide +kernel
theorem dX8_tells_28 : decode cX8_tells 28 = .ok (.ishl, 1) := by decide +kernel
theorem dX8_tells_29 : decode cX8_tells 29 = .ok (.istore 4, 2) := by decide +kernel
theorem dX8_tells_31 : decode cX8_tells 31 = .ok (.aload_n 3, 1) := by decide +kernel
theorem dX8_tells_32 : decode cX8_tells 32 = .ok (.getfield 108, 3) := by decide +kernel
theorem dX8_tells_35 : decode cX8_tells 35 = .ok (.iload 4, 2) := by decide +kernel
theorem dX8_tells_37 : decode cX8_tells 37 = .ok (.iand, 1) := by decide +kernel
theorem dX8_tells_38 : decode cX8_tells 38 = .ok (.ifCond .eq 7, 3) := by decide +kernel
theorem dX8_tells_41 : decode cX8_tells 41 = .ok (.iconst 1, 1) := by decide +kernel
theorem dX8_tells_42 : decode cX8_tells 42 = .ok (.goto 4, 3) := by decide +kernel
theorem dX8_tells_45 : decode cX8_tells 45 = .ok (.iconst 0, 1) := by decide +kernel
theorem dX8_tells_46 : decode cX8_tells 46 = .ok (.istore 5, 2) := by decide +kernel
theorem dX8_tells_48 : decode cX8_tells 48 = .ok (.aload_n 3, 1) := by decide +kernel
theorem dX8_tells_49 : decode cX8_tells 49 = .ok (.dup, 1) := by decide +kernel
theorem dX8_tells_50 : decode cX8_tells 50 = .ok (.getfield 108, 3) := by decide +kernel
theorem dX8_tells_53 : decode cX8_tells 53 = .ok (.iload 4, 2) := by decide +kernel
theorem dX8_tells_55 : decode cX8_tells 55 = .ok (.ior, 1) := by decide +kernel
theorem dX8_tells_56 : decode cX8_tells 56 = .ok (.putfield 108, 3) := by decide +kernel
theorem dX8_tells_59 : decode cX8_tells 59 = .ok (.iload 5, 2) := by decide +kernel
theorem dX8_tells_61 : decode cX8_tells 61 = .ok (.ireturn, 1) := by decide +kernel
theorem dX8_blows_0 : decode cX8_blows 0 = .ok (.iload_n 1, 1) := by decide +kernel
theorem dX8_blows_1 : decode cX8_blows 1 = .ok (.iconst 0, 1) := by decide +kernel
theorem dX8_blows_2 : decode cX8_blows 2 = .ok (.bipush 9, 2) := by decide +kernel
theorem dX8_blows_4 : decode cX8_blows 4 = .ok (.invokestatic 80, 3) := by decide +kernel
theorem dX8_blows_7 : decode cX8_blows 7 = .ok (.ifCond .ne 9, 3) := by decide +kernel
theorem dX8_blows_10 : decode cX8_blows 10 = .ok (.aload_n 0, 1) := by decide +kernel
theorem dX8_blows_11 : decode cX8_blows 11 = .ok (.iconst 1, 1) := by decide +kernel
theorem dX8_blows_12 : decode cX8_blows 12 = .ok (.invokevirtual 84, 3) := by decide +kernel
theorem dX8_blows_15 : decode cX8_blows 15 = .ok (.ireturn, 1) := by decide +kernel
theorem dX8_blows_16 : decode cX8_blows 16 = .ok (.aload_n 0, 1) := by decide +kernel
theorem dX8_blows_17 : decode cX8_blows 17 = .ok (.getfield 10, 3) := by decide +kernel
theorem dX8_blows_20 : decode cX8_blows 20 = .ok (.getfield 121, 3) := by decide +kernel
theorem dX8_blows_23 : decode cX8_blows 23 = .ok (.istore_n 2, 1) := by decide +kernel
theorem dX8_blows_24 : decode cX8_blows 24 = .ok (.aload_n 0, 1) := by decide +kernel
theorem dX8_blows_25 : decode cX8_blows 25 = .ok (.getfield 10, 3) := by decide +kernel
theorem dX8_blows_28 : decode cX8_blows 28 = .ok (.iload_n 1, 1) := by decide +kernel
theorem dX8_blows_29 : decode cX8_blows 29 = .ok (.putfield 121, 3) := by decide +kernel
theorem dX8_blows_32 : decode cX8_blows 32 = .ok (.iload_n 2, 1) := by decide +kernel
theorem dX8_blows_33 : decode cX8_blows 33 = .ok (.ireturn, 1) := by decide +kernel
theorem dX8_feed_0 : decode cX8_feed 0 = .ok (.iload_n 3, 1) := by decide +kernel
theorem dX8_feed_1 : decode cX8_feed 1 = .ok (.iconst 1, 1) := by decide +kernel
theorem dX8_feed_2 : decode cX8_feed 2 = .ok (.bipush 8, 2) := by decide +kernel
theorem dX8_feed_4 : decode cX8_feed 4 = .ok (.invokestatic 80, 3) := by decide +kernel
theorem dX8_feed_7 : decode cX8_feed 7 = .ok (.ifCond .ne 9, 3) := by decide +kernel
theorem dX8_feed_10 : decode cX8_feed 10 = .ok (.aload_n 0, 1) := by decide +kernel
theorem dX8_feed_11 : decode cX8_feed 11 = .ok (.iconst 1, 1) := by decide +kernel
theorem dX8_feed_12 : decode cX8_feed 12 = .ok (.invokevirtual 84, 3) := by decide +kernel
theorem dX8_feed_15 : decode cX8_feed 15 = .ok (.ireturn, 1) := by decide +kernel
theorem dX8_feed_16 : decode cX8_feed 16 = .ok (.aload_n 0, 1) := by decide +kernel
theorem dX8_feed_17 : decode cX8_feed 17 = .ok (.getfield 34, 3) := by decide +kernel
theorem dX8_feed_20 : decode cX8_feed 20 = .ok (.invokevirtual 133, 3) := by decide +kernel
theorem dX8_feed_23 : decode cX8_feed 23 = .ok (.iload_n 3, 1) := by decide +kernel
theorem dX8_feed_24 : decode cX8_feed 24 = .ok (.iadd, 1) := by decide +kernel
theorem dX8_feed_25 : decode cX8_feed 25 = .ok (.bipush 60, 2) := by decide +kernel
theorem dX8_feed_27 : decode cX8_feed 27 = .ok (.if_icmp .le 9, 3) := by decide +kernel
theorem dX8_feed_30 : decode cX8_feed 30 = .ok (.aload_n 0, 1) := by decide +kernel
theorem dX8_feed_31 : decode cX8_feed 31 = .ok (.iconst 4, 1) := by decide +kernel
theorem dX8_feed_32 : decode cX8_feed 32 = .ok (.invokevirtual 84, 3) := by decide +kernel
theorem dX8_feed_35 : decode cX8_feed 35 = .ok (.ireturn, 1) := by decide +kernel
theorem dX8_feed_36 : decode cX8_feed 36 = .ok (.iconst 0, 1) := by decide +kernel
theorem dX8_feed_37 : decode cX8_feed 37 = .ok (.istore 4, 2) := by decide +kernel
theorem dX8_feed_39 : decode cX8_feed 39 = .ok (.iload 4, 2) := by decide +kernel
theorem dX8_feed_41 : decode cX8_feed 41 = .ok (.iload_n 3, 1) := by decide +kernel
theorem dX8_feed_42 : decode cX8_feed 42 = .ok (.if_icmp .ge 29, 3) := by decide +kernel
theorem dX8_feed_45 : decode cX8_feed 45 = .ok (.aload_n 0, 1) := by decide +kernel
theorem dX8_feed_46 : decode cX8_feed 46 = .ok (.getfield 34, 3) := by decide +kernel
theorem dX8_feed_49 : decode cX8_feed 49 = .ok (.lload_n 1, 1) := by decide +kernel
theorem dX8_feed_50 : decode cX8_feed 50 = .ok (.bipush 8, 2) := by decide +kernel
theorem dX8_feed_52 : decode cX8_feed 52 = .ok (.iload 4, 2) := by decide +kernel
theorem dX8_feed_54 : decode cX8_feed 54 = .ok (.imul, 1) := by decide +kernel
theorem dX8_feed_55 : decode cX8_feed 55 = .ok (.lushr, 1) := by decide +kernel
theorem dX8_feed_56 : decode cX8_feed 56 = .ok (.l2i, 1) := by decide +kernel
theorem dX8_feed_57 : decode cX8_feed 57 = .ok (.sipush 255, 3) := by decide +kernel
theorem dX8_feed_60 : decode cX8_feed 60 = .ok (.iand, 1) := by decide +kernel
theorem dX8_feed_61 : decode cX8_feed 61 = .ok (.invokevirtual 137, 3) := by decide +kernel
theorem dX8_feed_64 : decode cX8_feed 64 = .ok (.pop, 1) := by decide +kernel
theorem dX8_feed_65 : decode cX8_feed 65 = .ok (.iinc 4 1, 3) := by decide +kernel
theorem dX8_feed_68 : decode cX8_feed 68 = .ok (.goto (-29), 3) := by decide +kernel
theorem dX8_feed_71 : decode cX8_feed 71 = .ok (.aload_n 0, 1) := by decide +kernel
theorem dX8_feed_72 : decode cX8_feed 72 = .ok (.getfield 34, 3) := by decide +kernel
theorem dX8_feed_75 : decode cX8_feed 75 = .ok (.invokevirtual 133, 3) := by decide +kernel
theorem dX8_feed_78 : decode cX8_feed 78 = .ok (.ireturn, 1) := by decide +kernel
theorem dX8_text_0 : decode cX8_text 0 = .ok (.aload_n 0, 1) := by decide +kernel
theorem dX8_text_1 : decode cX8_text 1 = .ok (.getfield 10, 3) := by decide +kernel
theorem dX8_text_4 : decode cX8_text 4 = .ok (.iload_n 1, 1) := by decide +kernel
theorem dX8_text_5 : decode cX8_text 5 = .ok (.invokevirtual 139, 3) := by decide +kernel
theorem dX8_text_8 : decode cX8_text 8 = .ok (.astore_n 2, 1) := by decide +kernel
theorem dX8_text_9 : decode cX8_text 9 = .ok (.aload_n 2, 1) := by decide +kernel
theorem dX8_text_10 : decode cX8_text 10 = .ok (.ifnonnull 9, 3) := by decide +kernel
theorem dX8_text_13 : decode cX8_text 13 = .ok (.aload_n 0, 1) := by decide +kernel
theorem dX8_text_14 : decode cX8_text 14 = .ok (.iconst 1, 1) := by decide +kernel
theorem dX8_text_15 : decode cX8_text 15 = .ok (.invokevirtual 84, 3) := by decide +kernel
theorem dX8_text_18 : decode cX8_text 18 = .ok (.ireturn, 1) := by decide +kernel
theorem dX8_text_19 : decode cX8_text 19 = .ok (.aload_n 0, 1) := by decide +kernel
theorem dX8_text_20 : decode cX8_text 20 = .ok (.getfield 50, 3) := by decide +kernel
theorem dX8_text_23 : decode cX8_text 23 = .ok (.aload_n 0, 1) := by decide +kernel
theorem dX8_text_24 : decode cX8_text 24 = .ok (.getfield 34, 3) := by decide +kernel
theorem dX8_text_27 : decode cX8_text 27 = .ok (.iload_n 1, 1) := by decide +kernel
theorem dX8_text_28 : decode cX8_text 28 = .ok (.invokevirtual 143, 3) := by decide +kernel
theorem dX8_text_31 : decode cX8_text 31 = .ok (.istore_n 3, 1) := by decide +kernel
theorem dX8_text_32 : decode cX8_text 32 = .ok (.aload_n 0, 1) := by decide +kernel
theorem dX8_text_33 : decode cX8_text 33 = .ok (.getfield 34, 3) := by decide +kernel
theorem dX8_text_36 : decode cX8_text 36 = .ok (.invokevirtual 147, 3) := by decide +kernel
theorem dX8_text_39 : decode cX8_text 39 = .ok (.iload_n 3, 1) := by decide +kernel
theorem dX8_text_40 : decode cX8_text 40 = .ok (.iconst (-1), 1) := by decide +kernel
theorem dX8_text_41 : decode cX8_text 41 = .ok (.if_icmp .eq 8, 3) := by decide +kernel
theorem dX8_text_44 : decode cX8_text 44 = .ok (.bipush (-10), 2) := by decide +kernel
theorem dX8_text_46 : decode cX8_text 46 = .ok (.iload_n 3, 1) := by decide +kernel
theorem dX8_text_47 : decode cX8_text 47 = .ok (.isub, 1) := by decide +kernel
theorem dX8_text_48 : decode cX8_text 48 = .ok (.ireturn, 1) := by decide +kernel
theorem dX8_text_49 : decode cX8_text 49 = .ok (.aload_n 2, 1) := by decide +kernel
theorem dX8_text_50 : decode cX8_text 50 = .ok (.aload_n 0, 1) := by decide +kernel
theorem dX8_text_51 : decode cX8_text 51 = .ok (.getfield 50, 3) := by decide +kernel
theorem dX8_text_54 : decode cX8_text 54 = .ok (.getfield 150, 3) := by decide +kernel
theorem dX8_text_57 : decode cX8_text 57 = .ok (.invokevirtual 154, 3) := by decide +kernel
theorem dX8_text_60 : decode cX8_text 60 = .ok (.iconst 1, 1) := by decide +kernel
theorem dX8_text_61 : decode cX8_text 61 = .ok (.ireturn, 1) := by decide +kernel
theorem dX8_untell_0 : decode cX8_untell 0 = .ok (.aload_n 0, 1) := by decide +kernel
theorem dX8_untell_1 : decode cX8_untell 1 = .ok (.getfield 10, 3) := by decide +kernel
theorem dX8_untell_4 : decode cX8_untell 4 = .ok (.iload_n 1, 1) := by decide +kernel
theorem dX8_untell_5 : decode cX8_untell 5 = .ok (.invokevirtual 139, 3) := by decide +kernel
theorem dX8_untell_8 : decode cX8_untell 8 = .ok (.astore_n 2, 1) := by decide +kernel
theorem dX8_untell_9 : decode cX8_untell 9 = .ok (.aload_n 2, 1) := by decide +kernel
theorem dX8_untell_10 : decode cX8_untell 10 = .ok (.ifnonnull 9, 3) := by decide +kernel
theorem dX8_untell_13 : decode cX8_untell 13 = .ok (.aload_n 0, 1) := by decide +kernel
theorem dX8_untell_14 : decode cX8_untell 14 = .ok (.iconst 1, 1) := by decide +kernel
theorem dX8_untell_15 : decode cX8_untell 15 = .ok (.invokevirtual 84, 3) := by decide +kernel
theorem dX8_untell_18 : decode cX8_untell 18 = .ok (.ireturn, 1) := by decide +kernel
theorem dX8_untell_19 : decode cX8_untell 19 = .ok (.aload_n 2, 1) := by decide +kernel
theorem dX8_untell_20 : decode cX8_untell 20 = .ok (.getfield 160, 3) := by decide +kernel
theorem dX8_untell_23 : decode cX8_untell 23 = .ok (.invokevirtual 133, 3) := by decide +kernel
theorem dX8_untell_26 : decode cX8_untell 26 = .ok (.ifCond .le 7, 3) := by decide +kernel
theorem dX8_untell_29 : decode cX8_untell 29 = .ok (.iconst 1, 1) := by decide +kernel
theorem dX8_untell_30 : decode cX8_untell 30 = .ok (.goto 4, 3) := by decide +kernel
theorem dX8_untell_33 : decode cX8_untell 33 = .ok (.iconst 0, 1) := by decide +kernel
theorem dX8_untell_34 : decode cX8_untell 34 = .ok (.istore_n 3, 1) := by decide +kernel
theorem dX8_untell_35 : decode cX8_untell 35 = .ok (.aload_n 2, 1) := by decide +kernel
theorem dX8_untell_36 : decode cX8_untell 36 = .ok (.invokevirtual 163, 3) := by decide +kernel
theorem dX8_untell_39 : decode cX8_untell 39 = .ok (.iload_n 3, 1) := by decide +kernel
theorem dX8_untell_40 : decode cX8_untell 40 = .ok (.ireturn, 1) := by decide +kernel
theorem dX8_law_0 : decode cX8_law 0 = .ok (.aload_n 0, 1) := by decide +kernel
theorem dX8_law_1 : decode cX8_law 1 = .ok (.getfield 10, 3) := by decide +kernel
theorem dX8_law_4 : decode cX8_law 4 = .ok (.iload_n 1, 1) := by decide +kernel
theorem dX8_law_5 : decode cX8_law 5 = .ok (.invokevirtual 139, 3) := by decide +kernel
theorem dX8_law_8 : decode cX8_law 8 = .ok (.astore 5, 2) := by decide +kernel
theorem dX8_law_10 : decode cX8_law 10 = .ok (.aload 5, 2) := by decide +kernel
theorem dX8_law_12 : decode cX8_law 12 = .ok (.ifnonnull 9, 3) := by decide +kernel
theorem dX8_law_15 : decode cX8_law 15 = .ok (.aload_n 0, 1) := by decide +kernel
theorem dX8_law_16 : decode cX8_law 16 = .ok (.iconst 1, 1) := by decide +kernel
theorem dX8_law_17 : decode cX8_law 17 = .ok (.invokevirtual 84, 3) := by decide +kernel
theorem dX8_law_20 : decode cX8_law 20 = .ok (.ireturn, 1) := by decide +kernel
theorem dX8_law_21 : decode cX8_law 21 = .ok (.aload 5, 2) := by decide +kernel
theorem dX8_law_23 : decode cX8_law 23 = .ok (.iload_n 2, 1) := by decide +kernel
theorem dX8_law_24 : decode cX8_law 24 = .ok (.iload_n 3, 1) := by decide +kernel
theorem dX8_law_25 : decode cX8_law 25 = .ok (.iload 4, 2) := by decide +kernel
theorem dX8_law_27 : decode cX8_law 27 = .ok (.invokevirtual 164, 3) := by decide +kernel
theorem dX8_law_30 : decode cX8_law 30 = .ok (.ireturn, 1) := by decide +kernel
theorem dX8_nights_0 : decode cX8_nights 0 = .ok (.iload_n 1, 1) := by decide +kernel
theorem dX8_nights_1 : decode cX8_nights 1 = .ok (.iconst 1, 1) := by decide +kernel
theorem dX8_nights_2 : decode cX8_nights 2 = .ok (.bipush 60, 2) := by decide +kernel
theorem dX8_nights_4 : decode cX8_nights 4 = .ok (.invokestatic 80, 3) := by decide +kernel
theorem dX8_nights_7 : decode cX8_nights 7 = .ok (.ifCond .ne 9, 3) := by decide +kernel
theorem dX8_nights_10 : decode cX8_nights 10 = .ok (.aload_n 0, 1) := by decide +kernel
theorem dX8_nights_11 : decode cX8_nights 11 = .ok (.iconst 1, 1) := by decide +kernel
theorem dX8_nights_12 : decode cX8_nights 12 = .ok (.invokevirtual 84, 3) := by decide +kernel
theorem dX8_nights_15 : decode cX8_nights 15 = .ok (.ireturn, 1) := by decide +kernel
theorem dX8_nights_16 : decode cX8_nights 16 = .ok (.aload_n 0, 1) := by decide +kernel
theorem dX8_nights_17 : decode cX8_nights 17 = .ok (.getfield 10, 3) := by decide +kernel
theorem dX8_nights_20 : decode cX8_nights 20 = .ok (.getfield 167, 3) := by decide +kernel
theorem dX8_nights_23 : decode cX8_nights 23 = .ok (.iload_n 1, 1) := by decide +kernel
theorem dX8_nights_24 : decode cX8_nights 24 = .ok (.iadd, 1) := by decide +kernel
theorem dX8_nights_25 : decode cX8_nights 25 = .ok (.sipush 9999, 3) := by decide +kernel
theorem dX8_nights_28 : decode cX8_nights 28 = .ok (.if_icmp .le 9, 3) := by decide +kernel
theorem dX8_nights_31 : decode cX8_nights 31 = .ok (.aload_n 0, 1) := by decide +kernel
theorem dX8_nights_32 : decode cX8_nights 32 = .ok (.iconst 3, 1) := by decide +kernel
theorem dX8_nights_33 : decode cX8_nights 33 = .ok (.invokevirtual 84, 3) := by decide +kernel
theorem dX8_nights_36 : decode cX8_nights 36 = .ok (.ireturn, 1) := by decide +kernel
theorem dX8_nights_37 : decode cX8_nights 37 = .ok (.iconst 0, 1) := by decide +kernel
theorem dX8_nights_38 : decode cX8_nights 38 = .ok (.istore_n 2, 1) := by decide +kernel
theorem dX8_nights_39 : decode cX8_nights 39 = .ok (.iconst 0, 1) := by decide +kernel
theorem dX8_nights_40 : decode cX8_nights 40 = .ok (.istore_n 3, 1) := by decide +kernel
theorem dX8_nights_41 : decode cX8_nights 41 = .ok (.iload_n 3, 1) := by decide +kernel
theorem dX8_nights_42 : decode cX8_nights 42 = .ok (.iload_n 1, 1) := by decide +kernel
theorem dX8_nights_43 : decode cX8_nights 43 = .ok (.if_icmp .ge 27, 3) := by decide +kernel
theorem dX8_nights_46 : decode cX8_nights 46 = .ok (.aload_n 0, 1) := by decide +kernel
theorem dX8_nights_47 : decode cX8_nights 47 = .ok (.getfield 10, 3) := by decide +kernel
theorem dX8_nights_50 : decode cX8_nights 50 = .ok (.aload_n 0, 1) := by decide +kernel
theorem dX8_nights_51 : decode cX8_nights 51 = .ok (.getfield 25, 3) := by decide +kernel
theorem dX8_nights_54 : decode cX8_nights 54 = .ok (.iconst (-1), 1) := by decide +kernel
theorem dX8_nights_55 : decode cX8_nights 55 = .ok (.invokevirtual 170, 3) := by decide +kernel
theorem dX8_nights_58 : decode cX8_nights 58 = .ok (.ifCond .eq 6, 3) := by decide +kernel
theorem dX8_nights_61 : decode cX8_nights 61 = .ok (.iinc 2 1, 3) := by decide +kernel
theorem dX8_nights_64 : decode cX8_nights 64 = .ok (.iinc 3 1, 3) := by decide +kernel
theorem dX8_nights_67 : decode cX8_nights 67 = .ok (.goto (-26), 3) := by decide +kernel
theorem dX8_nights_70 : decode cX8_nights 70 = .ok (.iload_n 2, 1) := by decide +kernel
theorem dX8_nights_71 : decode cX8_nights 71 = .ok (.ireturn, 1) := by decide +kernel
theorem dX8_loose_0 : decode cX8_loose 0 = .ok (.iload_n 1, 1) := by decide +kernel
theorem dX8_loose_1 : decode cX8_loose 1 = .ok (.iconst 1, 1) := by decide +kernel
theorem dX8_loose_2 : decode cX8_loose 2 = .ok (.bipush 30, 2) := by decide +kernel
theorem dX8_loose_4 : decode cX8_loose 4 = .ok (.invokestatic 80, 3) := by decide +kernel
theorem dX8_loose_7 : decode cX8_loose 7 = .ok (.ifCond .ne 9, 3) := by decide +kernel
theorem dX8_loose_10 : decode cX8_loose 10 = .ok (.aload_n 0, 1) := by decide +kernel
theorem dX8_loose_11 : decode cX8_loose 11 = .ok (.iconst 1, 1) := by decide +kernel
theorem dX8_loose_12 : decode cX8_loose 12 = .ok (.invokevirtual 84, 3) := by decide +kernel
theorem dX8_loose_15 : decode cX8_loose 15 = .ok (.ireturn, 1) := by decide +kernel
theorem dX8_loose_16 : decode cX8_loose 16 = .ok (.aload_n 0, 1) := by decide +kernel
theorem dX8_loose_17 : decode cX8_loose 17 = .ok (.getfield 10, 3) := by decide +kernel
theorem dX8_loose_20 : decode cX8_loose 20 = .ok (.getfield 167, 3) := by decide +kernel
theorem dX8_loose_23 : decode cX8_loose 23 = .ok (.iload_n 1, 1) := by decide +kernel
theorem dX8_loose_24 : decode cX8_loose 24 = .ok (.iadd, 1) := by decide +kernel
theorem dX8_loose_25 : decode cX8_loose 25 = .ok (.sipush 9999, 3) := by decide +kernel
theorem dX8_loose_28 : decode cX8_loose 28 = .ok (.if_icmp .le 9, 3) := by decide +kernel
theorem dX8_loose_31 : decode cX8_loose 31 = .ok (.aload_n 0, 1) := by decide +kernel
theorem dX8_loose_32 : decode cX8_loose 32 = .ok (.iconst 3, 1) := by decide +kernel
theorem dX8_loose_33 : decode cX8_loose 33 = .ok (.invokevirtual 84, 3) := by decide +kernel
theorem dX8_loose_36 : decode cX8_loose 36 = .ok (.ireturn, 1) := by decide +kernel
theorem dX8_loose_37 : decode cX8_loose 37 = .ok (.iconst 0, 1) := by decide +kernel
theorem dX8_loose_38 : decode cX8_loose 38 = .ok (.istore_n 2, 1) := by decide +kernel
theorem dX8_loose_39 : decode cX8_loose 39 = .ok (.iconst 0, 1) := by decide +kernel
theorem dX8_loose_40 : decode cX8_loose 40 = .ok (.istore_n 3, 1) := by decide +kernel
theorem dX8_loose_41 : decode cX8_loose 41 = .ok (.iload_n 3, 1) := by decide +kernel
theorem dX8_loose_42 : decode cX8_loose 42 = .ok (.iload_n 1, 1) := by decide +kernel
theorem dX8_loose_43 : decode cX8_loose 43 = .ok (.if_icmp .ge 34, 3) := by decide +kernel
theorem dX8_loose_46 : decode cX8_loose 46 = .ok (.aload_n 0, 1) := by decide +kernel
theorem dX8_loose_47 : decode cX8_loose 47 = .ok (.getfield 10, 3) := by decide +kernel
theorem dX8_loose_50 : decode cX8_loose 50 = .ok (.invokevirtual 174, 3) := by decide +kernel
theorem dX8_loose_53 : decode cX8_loose 53 = .ok (.aload_n 0, 1) := by decide +kernel
theorem dX8_loose_54 : decode cX8_loose 54 = .ok (.getfield 10, 3) := by decide +kernel
theorem dX8_loose_57 : decode cX8_loose 57 = .ok (.aload_n 0, 1) := by decide +kernel
theorem dX8_loose_58 : decode cX8_loose 58 = .ok (.getfield 25, 3) := by decide +kernel
theorem dX8_loose_61 : decode cX8_loose 61 = .ok (.iconst (-1), 1) := by decide +kernel
theorem dX8_loose_62 : decode cX8_loose 62 = .ok (.invokevirtual 170, 3) := by decide +kernel
theorem dX8_loose_65 : decode cX8_loose 65 = .ok (.ifCond .eq 6, 3) := by decide +kernel
theorem dX8_loose_68 : decode cX8_loose 68 = .ok (.iinc 2 1, 3) := by decide +kernel
theorem dX8_loose_71 : decode cX8_loose 71 = .ok (.iinc 3 1, 3) := by decide +kernel
theorem dX8_loose_74 : decode cX8_loose 74 = .ok (.goto (-33), 3) := by decide +kernel
theorem dX8_loose_77 : decode cX8_loose 77 = .ok (.iload_n 2, 1) := by decide +kernel
theorem dX8_loose_78 : decode cX8_loose 78 = .ok (.ireturn, 1) := by decide +kernel
theorem dX8_seed_0 : decode cX8_seed 0 = .ok (.aload_n 0, 1) := by decide +kernel
theorem dX8_seed_1 : decode cX8_seed 1 = .ok (.getfield 10, 3) := by decide +kernel
theorem dX8_seed_4 : decode cX8_seed 4 = .ok (.getfield 177, 3) := by decide +kernel
theorem dX8_seed_7 : decode cX8_seed 7 = .ok (.istore_n 2, 1) := by decide +kernel
theorem dX8_seed_8 : decode cX8_seed 8 = .ok (.aload_n 0, 1) := by decide +kernel
theorem dX8_seed_9 : decode cX8_seed 9 = .ok (.getfield 10, 3) := by decide +kernel
theorem dX8_seed_12 : decode cX8_seed 12 = .ok (.iload_n 1, 1) := by decide +kernel
theorem dX8_seed_13 : decode cX8_seed 13 = .ok (.putfield 177, 3) := by decide +kernel
theorem dX8_seed_16 : decode cX8_seed 16 = .ok (.iload_n 2, 1) := by decide +kernel
theorem dX8_seed_17 : decode cX8_seed 17 = .ok (.ireturn, 1) := by decide +kernel
theorem dX8_tonight_0 : decode cX8_tonight 0 = .ok (.iload_n 1, 1) := by decide +kernel
theorem dX8_tonight_1 : decode cX8_tonight 1 = .ok (.iconst 0, 1) := by decide +kernel
theorem dX8_tonight_2 : decode cX8_tonight 2 = .ok (.iconst 3, 1) := by decide +kernel
theorem dX8_tonight_3 : decode cX8_tonight 3 = .ok (.invokestatic 80, 3) := by decide +kernel
theorem dX8_tonight_6 : decode cX8_tonight 6 = .ok (.ifCond .ne 9, 3) := by decide +kernel
theorem dX8_tonight_9 : decode cX8_tonight 9 = .ok (.aload_n 0, 1) := by decide +kernel
theorem dX8_tonight_10 : decode cX8_tonight 10 = .ok (.iconst 1, 1) := by decide +kernel
theorem dX8_tonight_11 : decode cX8_tonight 11 = .ok (.invokevirtual 84, 3) := by decide +kernel
theorem dX8_tonight_14 : decode cX8_tonight 14 = .ok (.ireturn, 1) := by decide +kernel
theorem dX8_tonight_15 : decode cX8_tonight 15 = .ok (.iload_n 1, 1) := by decide +kernel
theorem dX8_tonight_16 : decode cX8_tonight 16 = .ok (.iconst 3, 1) := by decide +kernel
theorem dX8_tonight_17 : decode cX8_tonight 17 = .ok (.if_icmp .ne 11, 3) := by decide +kernel
theorem dX8_tonight_20 : decode cX8_tonight 20 = .ok (.aload_n 0, 1) := by decide +kernel
theorem dX8_tonight_21 : decode cX8_tonight 21 = .ok (.getfield 10, 3) := by decide +kernel
theorem dX8_tonight_24 : decode cX8_tonight 24 = .ok (.invokevirtual 180, 3) := by decide +kernel
theorem dX8_tonight_27 : decode cX8_tonight 27 = .ok (.ireturn, 1) := by decide +kernel
theorem dX8_tonight_28 : decode cX8_tonight 28 = .ok (.aload_n 0, 1) := by decide +kernel
theorem dX8_tonight_29 : decode cX8_tonight 29 = .ok (.getfield 25, 3) := by decide +kernel
theorem dX8_tonight_32 : decode cX8_tonight 32 = .ok (.aload_n 0, 1) := by decide +kernel
theorem dX8_tonight_33 : decode cX8_tonight 33 = .ok (.getfield 10, 3) := by decide +kernel
theorem dX8_tonight_36 : decode cX8_tonight 36 = .ok (.iconst (-1), 1) := by decide +kernel
theorem dX8_tonight_37 : decode cX8_tonight 37 = .ok (.invokevirtual 183, 3) := by decide +kernel
theorem dX8_tonight_40 : decode cX8_tonight 40 = .ok (.ifCond .ne 9, 3) := by decide +kernel
theorem dX8_tonight_43 : decode cX8_tonight 43 = .ok (.aload_n 0, 1) := by decide +kernel
theorem dX8_tonight_44 : decode cX8_tonight 44 = .ok (.iconst 2, 1) := by decide +kernel
theorem dX8_tonight_45 : decode cX8_tonight 45 = .ok (.invokevirtual 84, 3) := by decide +kernel
theorem dX8_tonight_48 : decode cX8_tonight 48 = .ok (.ireturn, 1) := by decide +kernel
theorem dX8_tonight_49 : decode cX8_tonight 49 = .ok (.iload_n 1, 1) := by decide +kernel
theorem dX8_tonight_50 : decode cX8_tonight 50 = .ok (.lookupswitch 42 #[(0, 26), (1, 34)], 26) := by decide +kernel
theorem dX8_tonight_76 : decode cX8_tonight 76 = .ok (.aload_n 0, 1) := by decide +kernel
theorem dX8_tonight_77 : decode cX8_tonight 77 = .ok (.getfield 25, 3) := by decide +kernel
theorem dX8_tonight_80 : decode cX8_tonight 80 = .ok (.invokevirtual 187, 3) := by decide +kernel
theorem dX8_tonight_83 : decode cX8_tonight 83 = .ok (.ireturn, 1) := by decide +kernel
theorem dX8_tonight_84 : decode cX8_tonight 84 = .ok (.aload_n 0, 1) := by decide +kernel
theorem dX8_tonight_85 : decode cX8_tonight 85 = .ok (.getfield 25, 3) := by decide +kernel
theorem dX8_tonight_88 : decode cX8_tonight 88 = .ok (.invokevirtual 190, 3) := by decide +kernel
theorem dX8_tonight_91 : decode cX8_tonight 91 = .ok (.ireturn, 1) := by decide +kernel
end
section
theorem dX8_tonight_92 : decode cX8_tonight 92 = .ok (.aload_n 0, 1) := by decide +kernel
theorem dX8_tonight_93 : decode cX8_tonight 93 = .ok (.getfield 25, 3) := by decide +kernel
theorem dX8_tonight_96 : decode cX8_tonight 96 = .ok (.invokevirtual 193, 3) := by decide +kernel
theorem dX8_tonight_99 : decode cX8_tonight 99 = .ok (.ireturn, 1) := by decide +kernel
theorem dX8_lasts_0 : decode cX8_lasts 0 = .ok (.aload_n 0, 1) := by decide +kernel
theorem dX8_lasts_1 : decode cX8_lasts 1 = .ok (.iconst (-1), 1) := by decide +kernel
theorem dX8_lasts_2 : decode cX8_lasts 2 = .ok (.invokevirtual 196, 3) := by decide +kernel
theorem dX8_lasts_5 : decode cX8_lasts 5 = .ok (.ireturn, 1) := by decide +kernel
theorem dX8_without_0 : decode cX8_without 0 = .ok (.aload_n 0, 1) := by decide +kernel
theorem dX8_without_1 : decode cX8_without 1 = .ok (.getfield 10, 3) := by decide +kernel
theorem dX8_without_4 : decode cX8_without 4 = .ok (.iload_n 1, 1) := by decide +kernel
theorem dX8_without_5 : decode cX8_without 5 = .ok (.invokevirtual 96, 3) := by decide +kernel
theorem dX8_without_8 : decode cX8_without 8 = .ok (.ifnonnull 9, 3) := by decide +kernel
theorem dX8_without_11 : decode cX8_without 11 = .ok (.aload_n 0, 1) := by decide +kernel
theorem dX8_without_12 : decode cX8_without 12 = .ok (.iconst 1, 1) := by decide +kernel
theorem dX8_without_13 : decode cX8_without 13 = .ok (.invokevirtual 84, 3) := by decide +kernel
theorem dX8_without_16 : decode cX8_without 16 = .ok (.ireturn, 1) := by decide +kernel
theorem dX8_without_17 : decode cX8_without 17 = .ok (.aload_n 0, 1) := by decide +kernel
theorem dX8_without_18 : decode cX8_without 18 = .ok (.iconst (-1), 1) := by decide +kernel
theorem dX8_without_19 : decode cX8_without 19 = .ok (.invokevirtual 196, 3) := by decide +kernel
theorem dX8_without_22 : decode cX8_without 22 = .ok (.aload_n 0, 1) := by decide +kernel
theorem dX8_without_23 : decode cX8_without 23 = .ok (.iload_n 1, 1) := by decide +kernel
theorem dX8_without_24 : decode cX8_without 24 = .ok (.invokevirtual 196, 3) := by decide +kernel
theorem dX8_without_27 : decode cX8_without 27 = .ok (.isub, 1) := by decide +kernel
theorem dX8_without_28 : decode cX8_without 28 = .ok (.ireturn, 1) := by decide +kernel
theorem dX8_then_0 : decode cX8_then 0 = .ok (.aload_n 0, 1) := by decide +kernel
theorem dX8_then_1 : decode cX8_then 1 = .ok (.getfield 10, 3) := by decide +kernel
theorem dX8_then_4 : decode cX8_then 4 = .ok (.iload_n 1, 1) := by decide +kernel
theorem dX8_then_5 : decode cX8_then 5 = .ok (.invokevirtual 96, 3) := by decide +kernel
theorem dX8_then_8 : decode cX8_then 8 = .ok (.ifnull 13, 3) := by decide +kernel
theorem dX8_then_11 : decode cX8_then 11 = .ok (.iload_n 2, 1) := by decide +kernel
theorem dX8_then_12 : decode cX8_then 12 = .ok (.iconst 0, 1) := by decide +kernel
theorem dX8_then_13 : decode cX8_then 13 = .ok (.bipush 60, 2) := by decide +kernel
theorem dX8_then_15 : decode cX8_then 15 = .ok (.invokestatic 80, 3) := by decide +kernel
theorem dX8_then_18 : decode cX8_then 18 = .ok (.ifCond .ne 9, 3) := by decide +kernel
theorem dX8_then_21 : decode cX8_then 21 = .ok (.aload_n 0, 1) := by decide +kernel
theorem dX8_then_22 : decode cX8_then 22 = .ok (.iconst 1, 1) := by decide +kernel
theorem dX8_then_23 : decode cX8_then 23 = .ok (.invokevirtual 84, 3) := by decide +kernel
theorem dX8_then_26 : decode cX8_then 26 = .ok (.ireturn, 1) := by decide +kernel
theorem dX8_then_27 : decode cX8_then 27 = .ok (.aload_n 0, 1) := by decide +kernel
theorem dX8_then_28 : decode cX8_then 28 = .ok (.getfield 19, 3) := by decide +kernel
theorem dX8_then_31 : decode cX8_then 31 = .ok (.aload_n 0, 1) := by decide +kernel
theorem dX8_then_32 : decode cX8_then 32 = .ok (.getfield 10, 3) := by decide +kernel
theorem dX8_then_35 : decode cX8_then 35 = .ok (.invokevirtual 199, 3) := by decide +kernel
theorem dX8_then_38 : decode cX8_then 38 = .ok (.iconst 0, 1) := by decide +kernel
theorem dX8_then_39 : decode cX8_then 39 = .ok (.istore_n 3, 1) := by decide +kernel
theorem dX8_then_40 : decode cX8_then 40 = .ok (.iload_n 3, 1) := by decide +kernel
theorem dX8_then_41 : decode cX8_then 41 = .ok (.iload_n 2, 1) := by decide +kernel
theorem dX8_then_42 : decode cX8_then 42 = .ok (.if_icmp .ge 22, 3) := by decide +kernel
theorem dX8_then_45 : decode cX8_then 45 = .ok (.aload_n 0, 1) := by decide +kernel
theorem dX8_then_46 : decode cX8_then 46 = .ok (.getfield 19, 3) := by decide +kernel
theorem dX8_then_49 : decode cX8_then 49 = .ok (.aload_n 0, 1) := by decide +kernel
theorem dX8_then_50 : decode cX8_then 50 = .ok (.getfield 25, 3) := by decide +kernel
theorem dX8_then_53 : decode cX8_then 53 = .ok (.iconst (-1), 1) := by decide +kernel
theorem dX8_then_54 : decode cX8_then 54 = .ok (.invokevirtual 170, 3) := by decide +kernel
theorem dX8_then_57 : decode cX8_then 57 = .ok (.pop, 1) := by decide +kernel
theorem dX8_then_58 : decode cX8_then 58 = .ok (.iinc 3 1, 3) := by decide +kernel
theorem dX8_then_61 : decode cX8_then 61 = .ok (.goto (-21), 3) := by decide +kernel
theorem dX8_then_64 : decode cX8_then 64 = .ok (.aload_n 0, 1) := by decide +kernel
theorem dX8_then_65 : decode cX8_then 65 = .ok (.getfield 19, 3) := by decide +kernel
theorem dX8_then_68 : decode cX8_then 68 = .ok (.iload_n 1, 1) := by decide +kernel
theorem dX8_then_69 : decode cX8_then 69 = .ok (.invokevirtual 96, 3) := by decide +kernel
theorem dX8_then_72 : decode cX8_then 72 = .ok (.astore_n 3, 1) := by decide +kernel
theorem dX8_then_73 : decode cX8_then 73 = .ok (.aload_n 3, 1) := by decide +kernel
theorem dX8_then_74 : decode cX8_then 74 = .ok (.ifnonnull 7, 3) := by decide +kernel
theorem dX8_then_77 : decode cX8_then 77 = .ok (.iconst 0, 1) := by decide +kernel
theorem dX8_then_78 : decode cX8_then 78 = .ok (.goto 7, 3) := by decide +kernel
theorem dX8_then_81 : decode cX8_then 81 = .ok (.aload_n 3, 1) := by decide +kernel
theorem dX8_then_82 : decode cX8_then 82 = .ok (.getfield 111, 3) := by decide +kernel
theorem dX8_then_85 : decode cX8_then 85 = .ok (.ireturn, 1) := by decide +kernel
theorem dX8_has_0 : decode cX8_has 0 = .ok (.iload_n 1, 1) := by decide +kernel
theorem dX8_has_1 : decode cX8_has 1 = .ok (.invokestatic 130, 3) := by decide +kernel
theorem dX8_has_4 : decode cX8_has 4 = .ok (.ifCond .ne 9, 3) := by decide +kernel
theorem dX8_has_7 : decode cX8_has 7 = .ok (.aload_n 0, 1) := by decide +kernel
theorem dX8_has_8 : decode cX8_has 8 = .ok (.iconst 1, 1) := by decide +kernel
theorem dX8_has_9 : decode cX8_has 9 = .ok (.invokevirtual 84, 3) := by decide +kernel
theorem dX8_has_12 : decode cX8_has 12 = .ok (.ireturn, 1) := by decide +kernel
theorem dX8_has_13 : decode cX8_has 13 = .ok (.iconst 0, 1) := by decide +kernel
theorem dX8_has_14 : decode cX8_has 14 = .ok (.istore_n 2, 1) := by decide +kernel
theorem dX8_has_15 : decode cX8_has 15 = .ok (.iconst 0, 1) := by decide +kernel
theorem dX8_has_16 : decode cX8_has 16 = .ok (.istore_n 3, 1) := by decide +kernel
theorem dX8_has_17 : decode cX8_has 17 = .ok (.iload_n 3, 1) := by decide +kernel
theorem dX8_has_18 : decode cX8_has 18 = .ok (.aload_n 0, 1) := by decide +kernel
theorem dX8_has_19 : decode cX8_has 19 = .ok (.getfield 10, 3) := by decide +kernel
theorem dX8_has_22 : decode cX8_has 22 = .ok (.getfield 202, 3) := by decide +kernel
theorem dX8_has_25 : decode cX8_has 25 = .ok (.if_icmp .ge 76, 3) := by decide +kernel
theorem dX8_has_28 : decode cX8_has 28 = .ok (.aload_n 0, 1) := by decide +kernel
theorem dX8_has_29 : decode cX8_has 29 = .ok (.getfield 10, 3) := by decide +kernel
theorem dX8_has_32 : decode cX8_has 32 = .ok (.iload_n 3, 1) := by decide +kernel
theorem dX8_has_33 : decode cX8_has 33 = .ok (.invokevirtual 96, 3) := by decide +kernel
theorem dX8_has_36 : decode cX8_has 36 = .ok (.astore 4, 2) := by decide +kernel
theorem dX8_has_38 : decode cX8_has 38 = .ok (.aload 4, 2) := by decide +kernel
theorem dX8_has_40 : decode cX8_has 40 = .ok (.ifnull 55, 3) := by decide +kernel
theorem dX8_has_43 : decode cX8_has 43 = .ok (.aload 4, 2) := by decide +kernel
theorem dX8_has_45 : decode cX8_has 45 = .ok (.getfield 108, 3) := by decide +kernel
theorem dX8_has_48 : decode cX8_has 48 = .ok (.iconst 1, 1) := by decide +kernel
theorem dX8_has_49 : decode cX8_has 49 = .ok (.iload_n 1, 1) := by decide +kernel
theorem dX8_has_50 : decode cX8_has 50 = .ok (.ishl, 1) := by decide +kernel
theorem dX8_has_51 : decode cX8_has 51 = .ok (.iand, 1) := by decide +kernel
theorem dX8_has_52 : decode cX8_has 52 = .ok (.ifCond .eq 43, 3) := by decide +kernel
theorem dX8_has_55 : decode cX8_has 55 = .ok (.aload 4, 2) := by decide +kernel
theorem dX8_has_57 : decode cX8_has 57 = .ok (.getfield 108, 3) := by decide +kernel
theorem dX8_has_60 : decode cX8_has 60 = .ok (.invokestatic 205, 3) := by decide +kernel
theorem dX8_has_63 : decode cX8_has 63 = .ok (.istore 5, 2) := by decide +kernel
theorem dX8_has_65 : decode cX8_has 65 = .ok (.iload_n 2, 1) := by decide +kernel
theorem dX8_has_66 : decode cX8_has 66 = .ok (.iload 5, 2) := by decide +kernel
theorem dX8_has_68 : decode cX8_has 68 = .ok (.ifCond .ne 7, 3) := by decide +kernel
theorem dX8_has_71 : decode cX8_has 71 = .ok (.iconst 0, 1) := by decide +kernel
theorem dX8_has_72 : decode cX8_has 72 = .ok (.goto 21, 3) := by decide +kernel
theorem dX8_has_75 : decode cX8_has 75 = .ok (.aload 4, 2) := by decide +kernel
theorem dX8_has_77 : decode cX8_has 77 = .ok (.getfield 111, 3) := by decide +kernel
theorem dX8_has_80 : decode cX8_has 80 = .ok (.aload_n 0, 1) := by decide +kernel
theorem dX8_has_81 : decode cX8_has 81 = .ok (.getfield 10, 3) := by decide +kernel
theorem dX8_has_84 : decode cX8_has 84 = .ok (.aload 4, 2) := by decide +kernel
theorem dX8_has_86 : decode cX8_has 86 = .ok (.invokevirtual 117, 3) := by decide +kernel
theorem dX8_has_89 : decode cX8_has 89 = .ok (.imul, 1) := by decide +kernel
theorem dX8_has_90 : decode cX8_has 90 = .ok (.iload 5, 2) := by decide +kernel
theorem dX8_has_92 : decode cX8_has 92 = .ok (.idiv, 1) := by decide +kernel
theorem dX8_has_93 : decode cX8_has 93 = .ok (.iadd, 1) := by decide +kernel
theorem dX8_has_94 : decode cX8_has 94 = .ok (.istore_n 2, 1) := by decide +kernel
theorem dX8_has_95 : decode cX8_has 95 = .ok (.iinc 3 1, 3) := by decide +kernel
theorem dX8_has_98 : decode cX8_has 98 = .ok (.goto (-81), 3) := by decide +kernel
theorem dX8_has_101 : decode cX8_has 101 = .ok (.iload_n 2, 1) := by decide +kernel
theorem dX8_has_102 : decode cX8_has 102 = .ok (.ireturn, 1) := by decide +kernel
theorem dX8_mixes_0 : decode cX8_mixes 0 = .ok (.aload_n 0, 1) := by decide +kernel
theorem dX8_mixes_1 : decode cX8_mixes 1 = .ok (.getfield 10, 3) := by decide +kernel
theorem dX8_mixes_4 : decode cX8_mixes 4 = .ok (.iload_n 1, 1) := by decide +kernel
theorem dX8_mixes_5 : decode cX8_mixes 5 = .ok (.invokevirtual 96, 3) := by decide +kernel
theorem dX8_mixes_8 : decode cX8_mixes 8 = .ok (.ifnull 12, 3) := by decide +kernel
theorem dX8_mixes_11 : decode cX8_mixes 11 = .ok (.iload_n 2, 1) := by decide +kernel
theorem dX8_mixes_12 : decode cX8_mixes 12 = .ok (.iconst 0, 1) := by decide +kernel
theorem dX8_mixes_13 : decode cX8_mixes 13 = .ok (.iconst 1, 1) := by decide +kernel
theorem dX8_mixes_14 : decode cX8_mixes 14 = .ok (.invokestatic 80, 3) := by decide +kernel
theorem dX8_mixes_17 : decode cX8_mixes 17 = .ok (.ifCond .ne 9, 3) := by decide +kernel
theorem dX8_mixes_20 : decode cX8_mixes 20 = .ok (.aload_n 0, 1) := by decide +kernel
theorem dX8_mixes_21 : decode cX8_mixes 21 = .ok (.iconst 1, 1) := by decide +kernel
theorem dX8_mixes_22 : decode cX8_mixes 22 = .ok (.invokevirtual 84, 3) := by decide +kernel
theorem dX8_mixes_25 : decode cX8_mixes 25 = .ok (.ireturn, 1) := by decide +kernel
theorem dX8_mixes_26 : decode cX8_mixes 26 = .ok (.aload_n 0, 1) := by decide +kernel
theorem dX8_mixes_27 : decode cX8_mixes 27 = .ok (.getfield 19, 3) := by decide +kernel
theorem dX8_mixes_30 : decode cX8_mixes 30 = .ok (.aload_n 0, 1) := by decide +kernel
theorem dX8_mixes_31 : decode cX8_mixes 31 = .ok (.getfield 10, 3) := by decide +kernel
theorem dX8_mixes_34 : decode cX8_mixes 34 = .ok (.invokevirtual 199, 3) := by decide +kernel
theorem dX8_mixes_37 : decode cX8_mixes 37 = .ok (.aload_n 0, 1) := by decide +kernel
theorem dX8_mixes_38 : decode cX8_mixes 38 = .ok (.getfield 19, 3) := by decide +kernel
theorem dX8_mixes_41 : decode cX8_mixes 41 = .ok (.iload_n 1, 1) := by decide +kernel
theorem dX8_mixes_42 : decode cX8_mixes 42 = .ok (.invokevirtual 96, 3) := by decide +kernel
theorem dX8_mixes_45 : decode cX8_mixes 45 = .ok (.astore_n 3, 1) := by decide +kernel
theorem dX8_mixes_46 : decode cX8_mixes 46 = .ok (.iconst 0, 1) := by decide +kernel
theorem dX8_mixes_47 : decode cX8_mixes 47 = .ok (.istore 4, 2) := by decide +kernel
theorem dX8_mixes_49 : decode cX8_mixes 49 = .ok (.iconst 0, 1) := by decide +kernel
theorem dX8_mixes_50 : decode cX8_mixes 50 = .ok (.istore 5, 2) := by decide +kernel
theorem dX8_mixes_52 : decode cX8_mixes 52 = .ok (.iconst 1, 1) := by decide +kernel
theorem dX8_mixes_53 : decode cX8_mixes 53 = .ok (.istore 6, 2) := by decide +kernel
theorem dX8_mixes_55 : decode cX8_mixes 55 = .ok (.iload 6, 2) := by decide +kernel
theorem dX8_mixes_57 : decode cX8_mixes 57 = .ok (.bipush 15, 2) := by decide +kernel
theorem dX8_mixes_59 : decode cX8_mixes 59 = .ok (.if_icmp .gt 49, 3) := by decide +kernel
theorem dX8_mixes_62 : decode cX8_mixes 62 = .ok (.aload_n 3, 1) := by decide +kernel
theorem dX8_mixes_63 : decode cX8_mixes 63 = .ok (.ifnull 45, 3) := by decide +kernel
theorem dX8_mixes_66 : decode cX8_mixes 66 = .ok (.aload_n 3, 1) := by decide +kernel
theorem dX8_mixes_67 : decode cX8_mixes 67 = .ok (.iload 6, 2) := by decide +kernel
theorem dX8_mixes_69 : decode cX8_mixes 69 = .ok (.putfield 108, 3) := by decide +kernel
theorem dX8_mixes_72 : decode cX8_mixes 72 = .ok (.aload_n 0, 1) := by decide +kernel
theorem dX8_mixes_73 : decode cX8_mixes 73 = .ok (.getfield 19, 3) := by decide +kernel
theorem dX8_mixes_76 : decode cX8_mixes 76 = .ok (.aload_n 3, 1) := by decide +kernel
theorem dX8_mixes_77 : decode cX8_mixes 77 = .ok (.invokevirtual 210, 3) := by decide +kernel
theorem dX8_mixes_80 : decode cX8_mixes 80 = .ok (.istore 7, 2) := by decide +kernel
theorem dX8_mixes_82 : decode cX8_mixes 82 = .ok (.iload 4, 2) := by decide +kernel
theorem dX8_mixes_84 : decode cX8_mixes 84 = .ok (.ifCond .eq 10, 3) := by decide +kernel
theorem dX8_mixes_87 : decode cX8_mixes 87 = .ok (.iload 7, 2) := by decide +kernel
theorem dX8_mixes_89 : decode cX8_mixes 89 = .ok (.iload 5, 2) := by decide +kernel
theorem dX8_mixes_91 : decode cX8_mixes 91 = .ok (.if_icmp .le 11, 3) := by decide +kernel
theorem dX8_mixes_94 : decode cX8_mixes 94 = .ok (.iload 6, 2) := by decide +kernel
theorem dX8_mixes_96 : decode cX8_mixes 96 = .ok (.istore 4, 2) := by decide +kernel
theorem dX8_mixes_98 : decode cX8_mixes 98 = .ok (.iload 7, 2) := by decide +kernel
theorem dX8_mixes_100 : decode cX8_mixes 100 = .ok (.istore 5, 2) := by decide +kernel
theorem dX8_mixes_102 : decode cX8_mixes 102 = .ok (.iinc 6 1, 3) := by decide +kernel
theorem dX8_mixes_105 : decode cX8_mixes 105 = .ok (.goto (-50), 3) := by decide +kernel
theorem dX8_mixes_108 : decode cX8_mixes 108 = .ok (.iload_n 2, 1) := by decide +kernel
theorem dX8_mixes_109 : decode cX8_mixes 109 = .ok (.ifCond .ne 8, 3) := by decide +kernel
theorem dX8_mixes_112 : decode cX8_mixes 112 = .ok (.iload 4, 2) := by decide +kernel
theorem dX8_mixes_114 : decode cX8_mixes 114 = .ok (.goto 5, 3) := by decide +kernel
theorem dX8_mixes_117 : decode cX8_mixes 117 = .ok (.iload 5, 2) := by decide +kernel
theorem dX8_mixes_119 : decode cX8_mixes 119 = .ok (.ireturn, 1) := by decide +kernel
theorem dX8_odds_0 : decode cX8_odds 0 = .ok (.iload_n 1, 1) := by decide +kernel
theorem dX8_odds_1 : decode cX8_odds 1 = .ok (.iconst 0, 1) := by decide +kernel
theorem dX8_odds_2 : decode cX8_odds 2 = .ok (.iconst 1, 1) := by decide +kernel
theorem dX8_odds_3 : decode cX8_odds 3 = .ok (.invokestatic 80, 3) := by decide +kernel
theorem dX8_odds_6 : decode cX8_odds 6 = .ok (.ifCond .ne 9, 3) := by decide +kernel
theorem dX8_odds_9 : decode cX8_odds 9 = .ok (.aload_n 0, 1) := by decide +kernel
theorem dX8_odds_10 : decode cX8_odds 10 = .ok (.iconst 1, 1) := by decide +kernel
theorem dX8_odds_11 : decode cX8_odds 11 = .ok (.invokevirtual 84, 3) := by decide +kernel
theorem dX8_odds_14 : decode cX8_odds 14 = .ok (.ireturn, 1) := by decide +kernel
theorem dX8_odds_15 : decode cX8_odds 15 = .ok (.aload_n 0, 1) := by decide +kernel
theorem dX8_odds_16 : decode cX8_odds 16 = .ok (.getfield 19, 3) := by decide +kernel
theorem dX8_odds_19 : decode cX8_odds 19 = .ok (.aload_n 0, 1) := by decide +kernel
theorem dX8_odds_20 : decode cX8_odds 20 = .ok (.getfield 10, 3) := by decide +kernel
theorem dX8_odds_23 : decode cX8_odds 23 = .ok (.invokevirtual 199, 3) := by decide +kernel
theorem dX8_odds_26 : decode cX8_odds 26 = .ok (.iconst 0, 1) := by decide +kernel
theorem dX8_odds_27 : decode cX8_odds 27 = .ok (.istore_n 2, 1) := by decide +kernel
theorem dX8_odds_28 : decode cX8_odds 28 = .ok (.iconst 0, 1) := by decide +kernel
theorem dX8_odds_29 : decode cX8_odds 29 = .ok (.istore_n 3, 1) := by decide +kernel
theorem dX8_odds_30 : decode cX8_odds 30 = .ok (.iload_n 3, 1) := by decide +kernel
theorem dX8_odds_31 : decode cX8_odds 31 = .ok (.bipush 9, 2) := by decide +kernel
theorem dX8_odds_33 : decode cX8_odds 33 = .ok (.if_icmp .gt 35, 3) := by decide +kernel
theorem dX8_odds_36 : decode cX8_odds 36 = .ok (.aload_n 0, 1) := by decide +kernel
theorem dX8_odds_37 : decode cX8_odds 37 = .ok (.getfield 19, 3) := by decide +kernel
theorem dX8_odds_40 : decode cX8_odds 40 = .ok (.iload_n 3, 1) := by decide +kernel
theorem dX8_odds_41 : decode cX8_odds 41 = .ok (.putfield 121, 3) := by decide +kernel
theorem dX8_odds_44 : decode cX8_odds 44 = .ok (.aload_n 0, 1) := by decide +kernel
theorem dX8_odds_45 : decode cX8_odds 45 = .ok (.getfield 25, 3) := by decide +kernel
theorem dX8_odds_48 : decode cX8_odds 48 = .ok (.aload_n 0, 1) := by decide +kernel
theorem dX8_odds_49 : decode cX8_odds 49 = .ok (.getfield 19, 3) := by decide +kernel
theorem dX8_odds_52 : decode cX8_odds 52 = .ok (.iconst (-1), 1) := by decide +kernel
theorem dX8_odds_53 : decode cX8_odds 53 = .ok (.invokevirtual 183, 3) := by decide +kernel
theorem dX8_odds_56 : decode cX8_odds 56 = .ok (.ifCond .eq 6, 3) := by decide +kernel
theorem dX8_odds_59 : decode cX8_odds 59 = .ok (.iinc 2 1, 3) := by decide +kernel
theorem dX8_odds_62 : decode cX8_odds 62 = .ok (.iinc 3 1, 3) := by decide +kernel
theorem dX8_odds_65 : decode cX8_odds 65 = .ok (.goto (-35), 3) := by decide +kernel
theorem dX8_odds_68 : decode cX8_odds 68 = .ok (.iload_n 1, 1) := by decide +kernel
theorem dX8_odds_69 : decode cX8_odds 69 = .ok (.ifCond .ne 12, 3) := by decide +kernel
theorem dX8_odds_72 : decode cX8_odds 72 = .ok (.iload_n 2, 1) := by decide +kernel
theorem dX8_odds_73 : decode cX8_odds 73 = .ok (.bipush 10, 2) := by decide +kernel
theorem dX8_odds_75 : decode cX8_odds 75 = .ok (.invokestatic 212, 3) := by decide +kernel
theorem dX8_odds_78 : decode cX8_odds 78 = .ok (.goto 9, 3) := by decide +kernel
theorem dX8_odds_81 : decode cX8_odds 81 = .ok (.bipush 10, 2) := by decide +kernel
theorem dX8_odds_83 : decode cX8_odds 83 = .ok (.iload_n 2, 1) := by decide +kernel
theorem dX8_odds_84 : decode cX8_odds 84 = .ok (.invokestatic 212, 3) := by decide +kernel
theorem dX8_odds_87 : decode cX8_odds 87 = .ok (.ireturn, 1) := by decide +kernel
theorem dX8_fits_0 : decode cX8_fits 0 = .ok (.aload_n 0, 1) := by decide +kernel
theorem dX8_fits_1 : decode cX8_fits 1 = .ok (.iload_n 1, 1) := by decide +kernel
theorem dX8_fits_2 : decode cX8_fits 2 = .ok (.invokevirtual 216, 3) := by decide +kernel
theorem dX8_fits_5 : decode cX8_fits 5 = .ok (.astore_n 2, 1) := by decide +kernel
theorem dX8_fits_6 : decode cX8_fits 6 = .ok (.aload_n 2, 1) := by decide +kernel
theorem dX8_fits_7 : decode cX8_fits 7 = .ok (.ifnonnull 9, 3) := by decide +kernel
theorem dX8_fits_10 : decode cX8_fits 10 = .ok (.aload_n 0, 1) := by decide +kernel
theorem dX8_fits_11 : decode cX8_fits 11 = .ok (.iconst 1, 1) := by decide +kernel
theorem dX8_fits_12 : decode cX8_fits 12 = .ok (.invokevirtual 84, 3) := by decide +kernel
theorem dX8_fits_15 : decode cX8_fits 15 = .ok (.ireturn, 1) := by decide +kernel
theorem dX8_fits_16 : decode cX8_fits 16 = .ok (.aload_n 2, 1) := by decide +kernel
theorem dX8_fits_17 : decode cX8_fits 17 = .ok (.invokevirtual 220, 3) := by decide +kernel
theorem dX8_fits_20 : decode cX8_fits 20 = .ok (.ifCond .eq 9, 3) := by decide +kernel
theorem dX8_fits_23 : decode cX8_fits 23 = .ok (.aload_n 0, 1) := by decide +kernel
theorem dX8_fits_24 : decode cX8_fits 24 = .ok (.iconst 2, 1) := by decide +kernel
theorem dX8_fits_25 : decode cX8_fits 25 = .ok (.invokevirtual 84, 3) := by decide +kernel
theorem dX8_fits_28 : decode cX8_fits 28 = .ok (.ireturn, 1) := by decide +kernel
theorem dX8_fits_29 : decode cX8_fits 29 = .ok (.aload_n 0, 1) := by decide +kernel
theorem dX8_fits_30 : decode cX8_fits 30 = .ok (.getfield 19, 3) := by decide +kernel
theorem dX8_fits_33 : decode cX8_fits 33 = .ok (.aload_n 0, 1) := by decide +kernel
theorem dX8_fits_34 : decode cX8_fits 34 = .ok (.getfield 10, 3) := by decide +kernel
theorem dX8_fits_37 : decode cX8_fits 37 = .ok (.invokevirtual 199, 3) := by decide +kernel
theorem dX8_fits_40 : decode cX8_fits 40 = .ok (.iconst 0, 1) := by decide +kernel
theorem dX8_fits_41 : decode cX8_fits 41 = .ok (.istore_n 3, 1) := by decide +kernel
theorem dX8_fits_42 : decode cX8_fits 42 = .ok (.iload_n 3, 1) := by decide +kernel
theorem dX8_fits_43 : decode cX8_fits 43 = .ok (.bipush 60, 2) := by decide +kernel
theorem dX8_fits_45 : decode cX8_fits 45 = .ok (.if_icmp .gt 35, 3) := by decide +kernel
theorem dX8_fits_48 : decode cX8_fits 48 = .ok (.aload_n 2, 1) := by decide +kernel
theorem dX8_fits_49 : decode cX8_fits 49 = .ok (.aload_n 0, 1) := by decide +kernel
theorem dX8_fits_50 : decode cX8_fits 50 = .ok (.getfield 19, 3) := by decide +kernel
theorem dX8_fits_53 : decode cX8_fits 53 = .ok (.invokestatic 223, 3) := by decide +kernel
theorem dX8_fits_56 : decode cX8_fits 56 = .ok (.ifCond .eq 5, 3) := by decide +kernel
theorem dX8_fits_59 : decode cX8_fits 59 = .ok (.iload_n 3, 1) := by decide +kernel
theorem dX8_fits_60 : decode cX8_fits 60 = .ok (.ireturn, 1) := by decide +kernel
theorem dX8_fits_61 : decode cX8_fits 61 = .ok (.aload_n 0, 1) := by decide +kernel
theorem dX8_fits_62 : decode cX8_fits 62 = .ok (.getfield 19, 3) := by decide +kernel
theorem dX8_fits_65 : decode cX8_fits 65 = .ok (.aload_n 0, 1) := by decide +kernel
theorem dX8_fits_66 : decode cX8_fits 66 = .ok (.getfield 25, 3) := by decide +kernel
theorem dX8_fits_69 : decode cX8_fits 69 = .ok (.iconst (-1), 1) := by decide +kernel
theorem dX8_fits_70 : decode cX8_fits 70 = .ok (.invokevirtual 170, 3) := by decide +kernel
theorem dX8_fits_73 : decode cX8_fits 73 = .ok (.pop, 1) := by decide +kernel
theorem dX8_fits_74 : decode cX8_fits 74 = .ok (.iinc 3 1, 3) := by decide +kernel
theorem dX8_fits_77 : decode cX8_fits 77 = .ok (.goto (-35), 3) := by decide +kernel
theorem dX8_fits_80 : decode cX8_fits 80 = .ok (.aload_n 0, 1) := by decide +kernel
theorem dX8_fits_81 : decode cX8_fits 81 = .ok (.iconst 2, 1) := by decide +kernel
theorem dX8_fits_82 : decode cX8_fits 82 = .ok (.invokevirtual 84, 3) := by decide +kernel
theorem dX8_fits_85 : decode cX8_fits 85 = .ok (.ireturn, 1) := by decide +kernel
theorem dX8_voice_0 : decode cX8_voice 0 = .ok (.aload_n 0, 1) := by decide +kernel
theorem dX8_voice_1 : decode cX8_voice 1 = .ok (.getfield 10, 3) := by decide +kernel
theorem dX8_voice_4 : decode cX8_voice 4 = .ok (.iload_n 1, 1) := by decide +kernel
theorem dX8_voice_5 : decode cX8_voice 5 = .ok (.invokevirtual 96, 3) := by decide +kernel
theorem dX8_voice_8 : decode cX8_voice 8 = .ok (.astore 4, 2) := by decide +kernel
theorem dX8_voice_10 : decode cX8_voice 10 = .ok (.aload 4, 2) := by decide +kernel
theorem dX8_voice_12 : decode cX8_voice 12 = .ok (.ifnull 12, 3) := by decide +kernel
theorem dX8_voice_15 : decode cX8_voice 15 = .ok (.iload_n 2, 1) := by decide +kernel
theorem dX8_voice_16 : decode cX8_voice 16 = .ok (.iconst 0, 1) := by decide +kernel
theorem dX8_voice_17 : decode cX8_voice 17 = .ok (.iconst 3, 1) := by decide +kernel
theorem dX8_voice_18 : decode cX8_voice 18 = .ok (.invokestatic 80, 3) := by decide +kernel
theorem dX8_voice_21 : decode cX8_voice 21 = .ok (.ifCond .ne 9, 3) := by decide +kernel
theorem dX8_voice_24 : decode cX8_voice 24 = .ok (.aload_n 0, 1) := by decide +kernel
theorem dX8_voice_25 : decode cX8_voice 25 = .ok (.iconst 1, 1) := by decide +kernel
theorem dX8_voice_26 : decode cX8_voice 26 = .ok (.invokevirtual 84, 3) := by decide +kernel
theorem dX8_voice_29 : decode cX8_voice 29 = .ok (.ireturn, 1) := by decide +kernel
theorem dX8_voice_30 : decode cX8_voice 30 = .ok (.aload_n 0, 1) := by decide +kernel
theorem dX8_voice_31 : decode cX8_voice 31 = .ok (.getfield 57, 3) := by decide +kernel
theorem dX8_voice_34 : decode cX8_voice 34 = .ok (.aload 4, 2) := by decide +kernel
theorem dX8_voice_36 : decode cX8_voice 36 = .ok (.iload_n 1, 1) := by decide +kernel
theorem dX8_voice_37 : decode cX8_voice 37 = .ok (.iload_n 2, 1) := by decide +kernel
theorem dX8_voice_38 : decode cX8_voice 38 = .ok (.iload_n 3, 1) := by decide +kernel
theorem dX8_voice_39 : decode cX8_voice 39 = .ok (.invokevirtual 227, 3) := by decide +kernel
theorem dX8_voice_42 : decode cX8_voice 42 = .ok (.istore 5, 2) := by decide +kernel
theorem dX8_voice_44 : decode cX8_voice 44 = .ok (.aload_n 0, 1) := by decide +kernel
theorem dX8_voice_45 : decode cX8_voice 45 = .ok (.getfield 57, 3) := by decide +kernel
theorem dX8_voice_48 : decode cX8_voice 48 = .ok (.getfield 231, 3) := by decide +kernel
theorem dX8_voice_51 : decode cX8_voice 51 = .ok (.ifCond .eq 12, 3) := by decide +kernel
theorem dX8_voice_54 : decode cX8_voice 54 = .ok (.aload_n 0, 1) := by decide +kernel
theorem dX8_voice_55 : decode cX8_voice 55 = .ok (.bipush 6, 2) := by decide +kernel
theorem dX8_voice_57 : decode cX8_voice 57 = .ok (.invokevirtual 84, 3) := by decide +kernel
theorem dX8_voice_60 : decode cX8_voice 60 = .ok (.goto 5, 3) := by decide +kernel
theorem dX8_voice_63 : decode cX8_voice 63 = .ok (.iload 5, 2) := by decide +kernel
theorem dX8_voice_65 : decode cX8_voice 65 = .ok (.ireturn, 1) := by decide +kernel
theorem dX8_body_0 : decode cX8_body 0 = .ok (.aload_n 0, 1) := by decide +kernel
theorem dX8_body_1 : decode cX8_body 1 = .ok (.getfield 57, 3) := by decide +kernel
theorem dX8_body_4 : decode cX8_body 4 = .ok (.getfield 235, 3) := by decide +kernel
theorem dX8_body_7 : decode cX8_body 7 = .ok (.iload_n 1, 1) := by decide +kernel
theorem dX8_body_8 : decode cX8_body 8 = .ok (.invokevirtual 238, 3) := by decide +kernel
theorem dX8_body_11 : decode cX8_body 11 = .ok (.ifCond .eq 17, 3) := by decide +kernel
theorem dX8_body_14 : decode cX8_body 14 = .ok (.aload_n 0, 1) := by decide +kernel
theorem dX8_body_15 : decode cX8_body 15 = .ok (.getfield 57, 3) := by decide +kernel
theorem dX8_body_18 : decode cX8_body 18 = .ok (.getfield 235, 3) := by decide +kernel
theorem dX8_body_21 : decode cX8_body 21 = .ok (.iload_n 1, 1) := by decide +kernel
theorem dX8_body_22 : decode cX8_body 22 = .ok (.invokevirtual 241, 3) := by decide +kernel
theorem dX8_body_25 : decode cX8_body 25 = .ok (.goto 8, 3) := by decide +kernel
theorem dX8_body_28 : decode cX8_body 28 = .ok (.aload_n 0, 1) := by decide +kernel
theorem dX8_body_29 : decode cX8_body 29 = .ok (.iconst 2, 1) := by decide +kernel
theorem dX8_body_30 : decode cX8_body 30 = .ok (.invokevirtual 84, 3) := by decide +kernel
theorem dX8_body_33 : decode cX8_body 33 = .ok (.ireturn, 1) := by decide +kernel
theorem dX8_sheet_0 : decode cX8_sheet 0 = .ok (.aload_n 0, 1) := by decide +kernel
theorem dX8_sheet_1 : decode cX8_sheet 1 = .ok (.iload_n 1, 1) := by decide +kernel
theorem dX8_sheet_2 : decode cX8_sheet 2 = .ok (.invokevirtual 216, 3) := by decide +kernel
theorem dX8_sheet_5 : decode cX8_sheet 5 = .ok (.astore 4, 2) := by decide +kernel
theorem dX8_sheet_7 : decode cX8_sheet 7 = .ok (.aload 4, 2) := by decide +kernel
theorem dX8_sheet_9 : decode cX8_sheet 9 = .ok (.ifnull 25, 3) := by decide +kernel
theorem dX8_sheet_12 : decode cX8_sheet 12 = .ok (.iload_n 2, 1) := by decide +kernel
theorem dX8_sheet_13 : decode cX8_sheet 13 = .ok (.ifCond .eq 27, 3) := by decide +kernel
theorem dX8_sheet_16 : decode cX8_sheet 16 = .ok (.iload_n 2, 1) := by decide +kernel
theorem dX8_sheet_17 : decode cX8_sheet 17 = .ok (.bipush 8, 2) := by decide +kernel
theorem dX8_sheet_19 : decode cX8_sheet 19 = .ok (.if_icmp .eq 21, 3) := by decide +kernel
theorem dX8_sheet_22 : decode cX8_sheet 22 = .ok (.iload_n 2, 1) := by decide +kernel
theorem dX8_sheet_23 : decode cX8_sheet 23 = .ok (.bipush 16, 2) := by decide +kernel
theorem dX8_sheet_25 : decode cX8_sheet 25 = .ok (.if_icmp .eq 15, 3) := by decide +kernel
theorem dX8_sheet_28 : decode cX8_sheet 28 = .ok (.iload_n 2, 1) := by decide +kernel
theorem dX8_sheet_29 : decode cX8_sheet 29 = .ok (.bipush 32, 2) := by decide +kernel
theorem dX8_sheet_31 : decode cX8_sheet 31 = .ok (.if_icmp .eq 9, 3) := by decide +kernel
theorem dX8_sheet_34 : decode cX8_sheet 34 = .ok (.aload_n 0, 1) := by decide +kernel
theorem dX8_sheet_35 : decode cX8_sheet 35 = .ok (.iconst 1, 1) := by decide +kernel
theorem dX8_sheet_36 : decode cX8_sheet 36 = .ok (.invokevirtual 84, 3) := by decide +kernel
theorem dX8_sheet_39 : decode cX8_sheet 39 = .ok (.ireturn, 1) := by decide +kernel
theorem dX8_sheet_40 : decode cX8_sheet 40 = .ok (.iload_n 2, 1) := by decide +kernel
theorem dX8_sheet_41 : decode cX8_sheet 41 = .ok (.ifCond .eq 13, 3) := by decide +kernel
theorem dX8_sheet_44 : decode cX8_sheet 44 = .ok (.iload_n 3, 1) := by decide +kernel
theorem dX8_sheet_45 : decode cX8_sheet 45 = .ok (.ifCond .ge 9, 3) := by decide +kernel
theorem dX8_sheet_48 : decode cX8_sheet 48 = .ok (.aload_n 0, 1) := by decide +kernel
theorem dX8_sheet_49 : decode cX8_sheet 49 = .ok (.iconst 3, 1) := by decide +kernel
theorem dX8_sheet_50 : decode cX8_sheet 50 = .ok (.invokevirtual 84, 3) := by decide +kernel
theorem dX8_sheet_53 : decode cX8_sheet 53 = .ok (.ireturn, 1) := by decide +kernel
theorem dX8_sheet_54 : decode cX8_sheet 54 = .ok (.iload_n 2, 1) := by decide +kernel
theorem dX8_sheet_55 : decode cX8_sheet 55 = .ok (.ifCond .eq 15, 3) := by decide +kernel
theorem dX8_sheet_58 : decode cX8_sheet 58 = .ok (.iload_n 3, 1) := by decide +kernel
theorem dX8_sheet_59 : decode cX8_sheet 59 = .ok (.bipush 24, 2) := by decide +kernel
theorem dX8_sheet_61 : decode cX8_sheet 61 = .ok (.if_icmp .le 9, 3) := by decide +kernel
theorem dX8_sheet_64 : decode cX8_sheet 64 = .ok (.aload_n 0, 1) := by decide +kernel
theorem dX8_sheet_65 : decode cX8_sheet 65 = .ok (.iconst 1, 1) := by decide +kernel
theorem dX8_sheet_66 : decode cX8_sheet 66 = .ok (.invokevirtual 84, 3) := by decide +kernel
theorem dX8_sheet_69 : decode cX8_sheet 69 = .ok (.ireturn, 1) := by decide +kernel
theorem dX8_sheet_70 : decode cX8_sheet 70 = .ok (.aload 4, 2) := by decide +kernel
theorem dX8_sheet_72 : decode cX8_sheet 72 = .ok (.iload_n 2, 1) := by decide +kernel
theorem dX8_sheet_73 : decode cX8_sheet 73 = .ok (.iload_n 2, 1) := by decide +kernel
theorem dX8_sheet_74 : decode cX8_sheet 74 = .ok (.ifCond .ne 7, 3) := by decide +kernel
theorem dX8_sheet_77 : decode cX8_sheet 77 = .ok (.iconst 0, 1) := by decide +kernel
theorem dX8_sheet_78 : decode cX8_sheet 78 = .ok (.goto 4, 3) := by decide +kernel
theorem dX8_sheet_81 : decode cX8_sheet 81 = .ok (.iload_n 3, 1) := by decide +kernel
theorem dX8_sheet_82 : decode cX8_sheet 82 = .ok (.invokevirtual 243, 3) := by decide +kernel
theorem dX8_sheet_85 : decode cX8_sheet 85 = .ok (.iconst 1, 1) := by decide +kernel
theorem dX8_sheet_86 : decode cX8_sheet 86 = .ok (.ireturn, 1) := by decide +kernel
theorem dX8_put_0 : decode cX8_put 0 = .ok (.aload_n 0, 1) := by decide +kernel
theorem dX8_put_1 : decode cX8_put 1 = .ok (.iload_n 1, 1) := by decide +kernel
theorem dX8_put_2 : decode cX8_put 2 = .ok (.invokevirtual 216, 3) := by decide +kernel
theorem dX8_put_5 : decode cX8_put 5 = .ok (.astore 4, 2) := by decide +kernel
theorem dX8_put_7 : decode cX8_put 7 = .ok (.aload 4, 2) := by decide +kernel
theorem dX8_put_9 : decode cX8_put 9 = .ok (.ifnonnull 9, 3) := by decide +kernel
theorem dX8_put_12 : decode cX8_put 12 = .ok (.aload_n 0, 1) := by decide +kernel
theorem dX8_put_13 : decode cX8_put 13 = .ok (.iconst 1, 1) := by decide +kernel
theorem dX8_put_14 : decode cX8_put 14 = .ok (.invokevirtual 84, 3) := by decide +kernel
theorem dX8_put_17 : decode cX8_put 17 = .ok (.ireturn, 1) := by decide +kernel
theorem dX8_put_18 : decode cX8_put 18 = .ok (.aload 4, 2) := by decide +kernel
theorem dX8_put_20 : decode cX8_put 20 = .ok (.invokevirtual 220, 3) := by decide +kernel
theorem dX8_put_23 : decode cX8_put 23 = .ok (.ifCond .eq 9, 3) := by decide +kernel
theorem dX8_put_26 : decode cX8_put 26 = .ok (.aload_n 0, 1) := by decide +kernel
theorem dX8_put_27 : decode cX8_put 27 = .ok (.iconst 2, 1) := by decide +kernel
theorem dX8_put_28 : decode cX8_put 28 = .ok (.invokevirtual 84, 3) := by decide +kernel
theorem dX8_put_31 : decode cX8_put 31 = .ok (.ireturn, 1) := by decide +kernel
theorem dX8_put_32 : decode cX8_put 32 = .ok (.aload 4, 2) := by decide +kernel
theorem dX8_put_34 : decode cX8_put 34 = .ok (.iload_n 2, 1) := by decide +kernel
theorem dX8_put_35 : decode cX8_put 35 = .ok (.invokevirtual 247, 3) := by decide +kernel
theorem dX8_put_38 : decode cX8_put 38 = .ok (.ifCond .ne 9, 3) := by decide +kernel
theorem dX8_put_41 : decode cX8_put 41 = .ok (.aload_n 0, 1) := by decide +kernel
theorem dX8_put_42 : decode cX8_put 42 = .ok (.iconst 1, 1) := by decide +kernel
theorem dX8_put_43 : decode cX8_put 43 = .ok (.invokevirtual 84, 3) := by decide +kernel
theorem dX8_put_46 : decode cX8_put 46 = .ok (.ireturn, 1) := by decide +kernel
theorem dX8_put_47 : decode cX8_put 47 = .ok (.aload 4, 2) := by decide +kernel
theorem dX8_put_49 : decode cX8_put 49 = .ok (.iload_n 2, 1) := by decide +kernel
theorem dX8_put_50 : decode cX8_put 50 = .ok (.iload_n 3, 1) := by decide +kernel
theorem dX8_put_51 : decode cX8_put 51 = .ok (.invokevirtual 248, 3) := by decide +kernel
theorem dX8_put_54 : decode cX8_put 54 = .ok (.iconst 1, 1) := by decide +kernel
theorem dX8_put_55 : decode cX8_put 55 = .ok (.ireturn, 1) := by decide +kernel
theorem dX8_move_0 : decode cX8_move 0 = .ok (.aload_n 0, 1) := by decide +kernel
theorem dX8_move_1 : decode cX8_move 1 = .ok (.iload_n 1, 1) := by decide +kernel
theorem dX8_move_2 : decode cX8_move 2 = .ok (.invokevirtual 216, 3) := by decide +kernel
theorem dX8_move_5 : decode cX8_move 5 = .ok (.astore 6, 2) := by decide +kernel
theorem dX8_move_7 : decode cX8_move 7 = .ok (.aload_n 0, 1) := by decide +kernel
theorem dX8_move_8 : decode cX8_move 8 = .ok (.iload_n 3, 1) := by decide +kernel
theorem dX8_move_9 : decode cX8_move 9 = .ok (.invokevirtual 216, 3) := by decide +kernel
theorem dX8_move_12 : decode cX8_move 12 = .ok (.astore 7, 2) := by decide +kernel
theorem dX8_move_14 : decode cX8_move 14 = .ok (.aload 6, 2) := by decide +kernel
theorem dX8_move_16 : decode cX8_move 16 = .ok (.ifnull 8, 3) := by decide +kernel
theorem dX8_move_19 : decode cX8_move 19 = .ok (.aload 7, 2) := by decide +kernel
theorem dX8_move_21 : decode cX8_move 21 = .ok (.ifnonnull 9, 3) := by decide +kernel
theorem dX8_move_24 : decode cX8_move 24 = .ok (.aload_n 0, 1) := by decide +kernel
theorem dX8_move_25 : decode cX8_move 25 = .ok (.iconst 1, 1) := by decide +kernel
theorem dX8_move_26 : decode cX8_move 26 = .ok (.invokevirtual 84, 3) := by decide +kernel
theorem dX8_move_29 : decode cX8_move 29 = .ok (.ireturn, 1) := by decide +kernel
theorem dX8_move_30 : decode cX8_move 30 = .ok (.aload 6, 2) := by decide +kernel
theorem dX8_move_32 : decode cX8_move 32 = .ok (.invokevirtual 220, 3) := by decide +kernel
theorem dX8_move_35 : decode cX8_move 35 = .ok (.ifCond .ne 11, 3) := by decide +kernel
theorem dX8_move_38 : decode cX8_move 38 = .ok (.aload 7, 2) := by decide +kernel
theorem dX8_move_40 : decode cX8_move 40 = .ok (.invokevirtual 220, 3) := by decide +kernel
theorem dX8_move_43 : decode cX8_move 43 = .ok (.ifCond .eq 9, 3) := by decide +kernel
theorem dX8_move_46 : decode cX8_move 46 = .ok (.aload_n 0, 1) := by decide +kernel
theorem dX8_move_47 : decode cX8_move 47 = .ok (.iconst 2, 1) := by decide +kernel
theorem dX8_move_48 : decode cX8_move 48 = .ok (.invokevirtual 84, 3) := by decide +kernel
theorem dX8_move_51 : decode cX8_move 51 = .ok (.ireturn, 1) := by decide +kernel
theorem dX8_move_52 : decode cX8_move 52 = .ok (.aload 6, 2) := by decide +kernel
theorem dX8_move_54 : decode cX8_move 54 = .ok (.getfield 251, 3) := by decide +kernel
theorem dX8_move_57 : decode cX8_move 57 = .ok (.aload 7, 2) := by decide +kernel
theorem dX8_move_59 : decode cX8_move 59 = .ok (.getfield 251, 3) := by decide +kernel
theorem dX8_move_62 : decode cX8_move 62 = .ok (.if_icmp .eq 9, 3) := by decide +kernel
theorem dX8_move_65 : decode cX8_move 65 = .ok (.aload_n 0, 1) := by decide +kernel
theorem dX8_move_66 : decode cX8_move 66 = .ok (.iconst 5, 1) := by decide +kernel
theorem dX8_move_67 : decode cX8_move 67 = .ok (.invokevirtual 84, 3) := by decide +kernel
theorem dX8_move_70 : decode cX8_move 70 = .ok (.ireturn, 1) := by decide +kernel
theorem dX8_move_71 : decode cX8_move 71 = .ok (.aload 6, 2) := by decide +kernel
theorem dX8_move_73 : decode cX8_move 73 = .ok (.iload_n 2, 1) := by decide +kernel
theorem dX8_move_74 : decode cX8_move 74 = .ok (.iload 5, 2) := by decide +kernel
theorem dX8_move_76 : decode cX8_move 76 = .ok (.invokevirtual 254, 3) := by decide +kernel
theorem dX8_move_79 : decode cX8_move 79 = .ok (.ifCond .eq 15, 3) := by decide +kernel
theorem dX8_move_82 : decode cX8_move 82 = .ok (.aload 7, 2) := by decide +kernel
theorem dX8_move_84 : decode cX8_move 84 = .ok (.iload 4, 2) := by decide +kernel
theorem dX8_move_86 : decode cX8_move 86 = .ok (.iload 5, 2) := by decide +kernel
theorem dX8_move_88 : decode cX8_move 88 = .ok (.invokevirtual 254, 3) := by decide +kernel
theorem dX8_move_91 : decode cX8_move 91 = .ok (.ifCond .ne 9, 3) := by decide +kernel
theorem dX8_move_94 : decode cX8_move 94 = .ok (.aload_n 0, 1) := by decide +kernel
theorem dX8_move_95 : decode cX8_move 95 = .ok (.iconst 1, 1) := by decide +kernel
theorem dX8_move_96 : decode cX8_move 96 = .ok (.invokevirtual 84, 3) := by decide +kernel
theorem dX8_move_99 : decode cX8_move 99 = .ok (.ireturn, 1) := by decide +kernel
theorem dX8_move_100 : decode cX8_move 100 = .ok (.aload 7, 2) := by decide +kernel
theorem dX8_move_102 : decode cX8_move 102 = .ok (.aload 6, 2) := by decide +kernel
theorem dX8_move_104 : decode cX8_move 104 = .ok (.iload_n 2, 1) := by decide +kernel
theorem dX8_move_105 : decode cX8_move 105 = .ok (.iload 4, 2) := by decide +kernel
theorem dX8_move_107 : decode cX8_move 107 = .ok (.iload 5, 2) := by decide +kernel
theorem dX8_move_109 : decode cX8_move 109 = .ok (.invokevirtual 258, 3) := by decide +kernel
theorem dX8_move_112 : decode cX8_move 112 = .ok (.iload 5, 2) := by decide +kernel
theorem dX8_move_114 : decode cX8_move 114 = .ok (.ireturn, 1) := by decide +kernel
theorem dX8_dears_0 : decode cX8_dears 0 = .ok (.aload_n 0, 1) := by decide +kernel
theorem dX8_dears_1 : decode cX8_dears 1 = .ok (.iload_n 1, 1) := by decide +kernel
theorem dX8_dears_2 : decode cX8_dears 2 = .ok (.invokevirtual 216, 3) := by decide +kernel
theorem dX8_dears_5 : decode cX8_dears 5 = .ok (.astore_n 2, 1) := by decide +kernel
theorem dX8_dears_6 : decode cX8_dears 6 = .ok (.aload_n 2, 1) := by decide +kernel
theorem dX8_dears_7 : decode cX8_dears 7 = .ok (.ifnonnull 9, 3) := by decide +kernel
theorem dX8_dears_10 : decode cX8_dears 10 = .ok (.aload_n 0, 1) := by decide +kernel
theorem dX8_dears_11 : decode cX8_dears 11 = .ok (.iconst 1, 1) := by decide +kernel
theorem dX8_dears_12 : decode cX8_dears 12 = .ok (.invokevirtual 84, 3) := by decide +kernel
theorem dX8_dears_15 : decode cX8_dears 15 = .ok (.ireturn, 1) := by decide +kernel
theorem dX8_dears_16 : decode cX8_dears 16 = .ok (.aload_n 2, 1) := by decide +kernel
theorem dX8_dears_17 : decode cX8_dears 17 = .ok (.invokevirtual 220, 3) := by decide +kernel
theorem dX8_dears_20 : decode cX8_dears 20 = .ok (.ifCond .eq 9, 3) := by decide +kernel
theorem dX8_dears_23 : decode cX8_dears 23 = .ok (.aload_n 0, 1) := by decide +kernel
theorem dX8_dears_24 : decode cX8_dears 24 = .ok (.iconst 2, 1) := by decide +kernel
theorem dX8_dears_25 : decode cX8_dears 25 = .ok (.invokevirtual 84, 3) := by decide +kernel
theorem dX8_dears_28 : decode cX8_dears 28 = .ok (.ireturn, 1) := by decide +kernel
theorem dX8_dears_29 : decode cX8_dears 29 = .ok (.iconst 0, 1) := by decide +kernel
theorem dX8_dears_30 : decode cX8_dears 30 = .ok (.istore_n 3, 1) := by decide +kernel
theorem dX8_dears_31 : decode cX8_dears 31 = .ok (.iload_n 3, 1) := by decide +kernel
theorem dX8_dears_32 : decode cX8_dears 32 = .ok (.bipush 24, 2) := by decide +kernel
theorem dX8_dears_34 : decode cX8_dears 34 = .ok (.if_icmp .ge 59, 3) := by decide +kernel
theorem dX8_dears_37 : decode cX8_dears 37 = .ok (.aload_n 2, 1) := by decide +kernel
theorem dX8_dears_38 : decode cX8_dears 38 = .ok (.iload_n 3, 1) := by decide +kernel
theorem dX8_dears_39 : decode cX8_dears 39 = .ok (.invokevirtual 247, 3) := by decide +kernel
theorem dX8_dears_42 : decode cX8_dears 42 = .ok (.ifCond .eq 51, 3) := by decide +kernel
theorem dX8_dears_45 : decode cX8_dears 45 = .ok (.aload_n 0, 1) := by decide +kernel
theorem dX8_dears_46 : decode cX8_dears 46 = .ok (.getfield 10, 3) := by decide +kernel
theorem dX8_dears_49 : decode cX8_dears 49 = .ok (.iload_n 3, 1) := by decide +kernel
theorem dX8_dears_50 : decode cX8_dears 50 = .ok (.invokevirtual 96, 3) := by decide +kernel
theorem dX8_dears_53 : decode cX8_dears 53 = .ok (.astore 4, 2) := by decide +kernel
theorem dX8_dears_55 : decode cX8_dears 55 = .ok (.aload 4, 2) := by decide +kernel
theorem dX8_dears_57 : decode cX8_dears 57 = .ok (.ifnull 36, 3) := by decide +kernel
theorem dX8_dears_60 : decode cX8_dears 60 = .ok (.aload_n 2, 1) := by decide +kernel
theorem dX8_dears_61 : decode cX8_dears 61 = .ok (.iload_n 3, 1) := by decide +kernel
theorem dX8_dears_62 : decode cX8_dears 62 = .ok (.invokevirtual 262, 3) := by decide +kernel
theorem dX8_dears_65 : decode cX8_dears 65 = .ok (.iconst 0, 1) := by decide +kernel
theorem dX8_dears_66 : decode cX8_dears 66 = .ok (.bipush 99, 2) := by decide +kernel
theorem dX8_dears_68 : decode cX8_dears 68 = .ok (.invokestatic 80, 3) := by decide +kernel
theorem dX8_dears_71 : decode cX8_dears 71 = .ok (.ifCond .ne 6, 3) := by decide +kernel
theorem dX8_dears_74 : decode cX8_dears 74 = .ok (.goto 19, 3) := by decide +kernel
theorem dX8_dears_77 : decode cX8_dears 77 = .ok (.aload 4, 2) := by decide +kernel
theorem dX8_dears_79 : decode cX8_dears 79 = .ok (.aload_n 2, 1) := by decide +kernel
theorem dX8_dears_80 : decode cX8_dears 80 = .ok (.iload_n 3, 1) := by decide +kernel
theorem dX8_dears_81 : decode cX8_dears 81 = .ok (.invokevirtual 262, 3) := by decide +kernel
theorem dX8_dears_84 : decode cX8_dears 84 = .ok (.putfield 114, 3) := by decide +kernel
theorem dX8_dears_87 : decode cX8_dears 87 = .ok (.iinc 3 1, 3) := by decide +kernel
theorem dX8_dears_90 : decode cX8_dears 90 = .ok (.goto (-59), 3) := by decide +kernel
theorem dX8_dears_93 : decode cX8_dears 93 = .ok (.iload_n 3, 1) := by decide +kernel
theorem dX8_dears_94 : decode cX8_dears 94 = .ok (.ireturn, 1) := by decide +kernel
theorem dX8_judge_0 : decode cX8_judge 0 = .ok (.aload_n 0, 1) := by decide +kernel
theorem dX8_judge_1 : decode cX8_judge 1 = .ok (.iload_n 1, 1) := by decide +kernel
theorem dX8_judge_2 : decode cX8_judge 2 = .ok (.invokevirtual 216, 3) := by decide +kernel
theorem dX8_judge_5 : decode cX8_judge 5 = .ok (.astore_n 2, 1) := by decide +kernel
theorem dX8_judge_6 : decode cX8_judge 6 = .ok (.aload_n 2, 1) := by decide +kernel
theorem dX8_judge_7 : decode cX8_judge 7 = .ok (.ifnonnull 9, 3) := by decide +kernel
theorem dX8_judge_10 : decode cX8_judge 10 = .ok (.aload_n 0, 1) := by decide +kernel
theorem dX8_judge_11 : decode cX8_judge 11 = .ok (.iconst 1, 1) := by decide +kernel
theorem dX8_judge_12 : decode cX8_judge 12 = .ok (.invokevirtual 84, 3) := by decide +kernel
theorem dX8_judge_15 : decode cX8_judge 15 = .ok (.ireturn, 1) := by decide +kernel
theorem dX8_judge_16 : decode cX8_judge 16 = .ok (.aload_n 2, 1) := by decide +kernel
theorem dX8_judge_17 : decode cX8_judge 17 = .ok (.invokevirtual 220, 3) := by decide +kernel
theorem dX8_judge_20 : decode cX8_judge 20 = .ok (.ifCond .eq 9, 3) := by decide +kernel
theorem dX8_judge_23 : decode cX8_judge 23 = .ok (.aload_n 0, 1) := by decide +kernel
theorem dX8_judge_24 : decode cX8_judge 24 = .ok (.iconst 2, 1) := by decide +kernel
theorem dX8_judge_25 : decode cX8_judge 25 = .ok (.invokevirtual 84, 3) := by decide +kernel
theorem dX8_judge_28 : decode cX8_judge 28 = .ok (.ireturn, 1) := by decide +kernel
theorem dX8_judge_29 : decode cX8_judge 29 = .ok (.iconst 0, 1) := by decide +kernel
theorem dX8_judge_30 : decode cX8_judge 30 = .ok (.istore_n 3, 1) := by decide +kernel
theorem dX8_judge_31 : decode cX8_judge 31 = .ok (.iload_n 3, 1) := by decide +kernel
theorem dX8_judge_32 : decode cX8_judge 32 = .ok (.bipush 24, 2) := by decide +kernel
theorem dX8_judge_34 : decode cX8_judge 34 = .ok (.if_icmp .ge 52, 3) := by decide +kernel
theorem dX8_judge_37 : decode cX8_judge 37 = .ok (.aload_n 2, 1) := by decide +kernel
theorem dX8_judge_38 : decode cX8_judge 38 = .ok (.iload_n 3, 1) := by decide +kernel
theorem dX8_judge_39 : decode cX8_judge 39 = .ok (.invokevirtual 247, 3) := by decide +kernel
theorem dX8_judge_42 : decode cX8_judge 42 = .ok (.ifCond .eq 44, 3) := by decide +kernel
theorem dX8_judge_45 : decode cX8_judge 45 = .ok (.aload_n 0, 1) := by decide +kernel
theorem dX8_judge_46 : decode cX8_judge 46 = .ok (.getfield 10, 3) := by decide +kernel
theorem dX8_judge_49 : decode cX8_judge 49 = .ok (.iload_n 3, 1) := by decide +kernel
theorem dX8_judge_50 : decode cX8_judge 50 = .ok (.invokevirtual 96, 3) := by decide +kernel
theorem dX8_judge_53 : decode cX8_judge 53 = .ok (.astore 4, 2) := by decide +kernel
theorem dX8_judge_55 : decode cX8_judge 55 = .ok (.aload 4, 2) := by decide +kernel
theorem dX8_judge_57 : decode cX8_judge 57 = .ok (.ifnull 29, 3) := by decide +kernel
theorem dX8_judge_60 : decode cX8_judge 60 = .ok (.aload_n 2, 1) := by decide +kernel
theorem dX8_judge_61 : decode cX8_judge 61 = .ok (.iload_n 3, 1) := by decide +kernel
theorem dX8_judge_62 : decode cX8_judge 62 = .ok (.invokevirtual 262, 3) := by decide +kernel
theorem dX8_judge_65 : decode cX8_judge 65 = .ok (.aload_n 0, 1) := by decide +kernel
theorem dX8_judge_66 : decode cX8_judge 66 = .ok (.getfield 10, 3) := by decide +kernel
theorem dX8_judge_69 : decode cX8_judge 69 = .ok (.aload 4, 2) := by decide +kernel
theorem dX8_judge_71 : decode cX8_judge 71 = .ok (.invokevirtual 117, 3) := by decide +kernel
theorem dX8_judge_74 : decode cX8_judge 74 = .ok (.if_icmp .eq 6, 3) := by decide +kernel
theorem dX8_judge_77 : decode cX8_judge 77 = .ok (.goto 9, 3) := by decide +kernel
theorem dX8_judge_80 : decode cX8_judge 80 = .ok (.iinc 3 1, 3) := by decide +kernel
theorem dX8_judge_83 : decode cX8_judge 83 = .ok (.goto (-52), 3) := by decide +kernel
theorem dX8_judge_86 : decode cX8_judge 86 = .ok (.iload_n 3, 1) := by decide +kernel
theorem dX8_judge_87 : decode cX8_judge 87 = .ok (.ireturn, 1) := by decide +kernel
theorem dX8_image_0 : decode cX8_image 0 = .ok (.aload_n 0, 1) := by decide +kernel
theorem dX8_image_1 : decode cX8_image 1 = .ok (.getfield 16, 3) := by decide +kernel
theorem dX8_image_4 : decode cX8_image 4 = .ok (.aload_n 0, 1) := by decide +kernel
theorem dX8_image_5 : decode cX8_image 5 = .ok (.getfield 10, 3) := by decide +kernel
theorem dX8_image_8 : decode cX8_image 8 = .ok (.invokevirtual 199, 3) := by decide +kernel
theorem dX8_image_11 : decode cX8_image 11 = .ok (.aload_n 0, 1) := by decide +kernel
theorem dX8_image_12 : decode cX8_image 12 = .ok (.getfield 38, 3) := by decide +kernel
theorem dX8_image_15 : decode cX8_image 15 = .ok (.aload_n 0, 1) := by decide +kernel
theorem dX8_image_16 : decode cX8_image 16 = .ok (.getfield 34, 3) := by decide +kernel
theorem dX8_image_19 : decode cX8_image 19 = .ok (.invokevirtual 263, 3) := by decide +kernel
theorem dX8_image_22 : decode cX8_image 22 = .ok (.aload_n 0, 1) := by decide +kernel
theorem dX8_image_23 : decode cX8_image 23 = .ok (.getfield 44, 3) := by decide +kernel
theorem dX8_image_26 : decode cX8_image 26 = .ok (.aload_n 0, 1) := by decide +kernel
theorem dX8_image_27 : decode cX8_image 27 = .ok (.getfield 41, 3) := by decide +kernel
theorem dX8_image_30 : decode cX8_image 30 = .ok (.invokevirtual 263, 3) := by decide +kernel
theorem dX8_image_33 : decode cX8_image 33 = .ok (.aload_n 0, 1) := by decide +kernel
theorem dX8_image_34 : decode cX8_image 34 = .ok (.dup, 1) := by decide +kernel
theorem dX8_image_35 : decode cX8_image 35 = .ok (.getfield 71, 3) := by decide +kernel
theorem dX8_image_38 : decode cX8_image 38 = .ok (.iconst 1, 1) := by decide +kernel
theorem dX8_image_39 : decode cX8_image 39 = .ok (.iadd, 1) := by decide +kernel
theorem dX8_image_40 : decode cX8_image 40 = .ok (.putfield 71, 3) := by decide +kernel
theorem dX8_image_43 : decode cX8_image 43 = .ok (.aload_n 0, 1) := by decide +kernel
theorem dX8_image_44 : decode cX8_image 44 = .ok (.getfield 71, 3) := by decide +kernel
theorem dX8_image_47 : decode cX8_image 47 = .ok (.ireturn, 1) := by decide +kernel
theorem dX8_restore_0 : decode cX8_restore 0 = .ok (.aload_n 0, 1) := by decide +kernel
theorem dX8_restore_1 : decode cX8_restore 1 = .ok (.getfield 71, 3) := by decide +kernel
theorem dX8_restore_4 : decode cX8_restore 4 = .ok (.ifCond .ne 9, 3) := by decide +kernel
theorem dX8_restore_7 : decode cX8_restore 7 = .ok (.aload_n 0, 1) := by decide +kernel
theorem dX8_restore_8 : decode cX8_restore 8 = .ok (.iconst 2, 1) := by decide +kernel
theorem dX8_restore_9 : decode cX8_restore 9 = .ok (.invokevirtual 84, 3) := by decide +kernel
theorem dX8_restore_12 : decode cX8_restore 12 = .ok (.ireturn, 1) := by decide +kernel
theorem dX8_restore_13 : decode cX8_restore 13 = .ok (.aload_n 0, 1) := by decide +kernel
theorem dX8_restore_14 : decode cX8_restore 14 = .ok (.getfield 10, 3) := by decide +kernel
theorem dX8_restore_17 : decode cX8_restore 17 = .ok (.aload_n 0, 1) := by decide +kernel
theorem dX8_restore_18 : decode cX8_restore 18 = .ok (.getfield 16, 3) := by decide +kernel
theorem dX8_restore_21 : decode cX8_restore 21 = .ok (.invokevirtual 199, 3) := by decide +kernel
theorem dX8_restore_24 : decode cX8_restore 24 = .ok (.aload_n 0, 1) := by decide +kernel
theorem dX8_restore_25 : decode cX8_restore 25 = .ok (.getfield 34, 3) := by decide +kernel
theorem dX8_restore_28 : decode cX8_restore 28 = .ok (.aload_n 0, 1) := by decide +kernel
theorem dX8_restore_29 : decode cX8_restore 29 = .ok (.getfield 38, 3) := by decide +kernel
theorem dX8_restore_32 : decode cX8_restore 32 = .ok (.invokevirtual 263, 3) := by decide +kernel
theorem dX8_restore_35 : decode cX8_restore 35 = .ok (.aload_n 0, 1) := by decide +kernel
theorem dX8_restore_36 : decode cX8_restore 36 = .ok (.getfield 41, 3) := by decide +kernel
theorem dX8_restore_39 : decode cX8_restore 39 = .ok (.aload_n 0, 1) := by decide +kernel
theorem dX8_restore_40 : decode cX8_restore 40 = .ok (.getfield 44, 3) := by decide +kernel
theorem dX8_restore_43 : decode cX8_restore 43 = .ok (.invokevirtual 263, 3) := by decide +kernel
theorem dX8_restore_46 : decode cX8_restore 46 = .ok (.aload_n 0, 1) := by decide +kernel
theorem dX8_restore_47 : decode cX8_restore 47 = .ok (.getfield 10, 3) := by decide +kernel
theorem dX8_restore_50 : decode cX8_restore 50 = .ok (.getfield 167, 3) := by decide +kernel
theorem dX8_restore_53 : decode cX8_restore 53 = .ok (.ireturn, 1) := by decide +kernel
theorem dX8_tell_0 : decode cX8_tell 0 = .ok (.aload_n 0, 1) := by decide +kernel
theorem dX8_tell_1 : decode cX8_tell 1 = .ok (.getfield 41, 3) := by decide +kernel
theorem dX8_tell_4 : decode cX8_tell 4 = .ok (.iload_n 1, 1) := by decide +kernel
theorem dX8_tell_5 : decode cX8_tell 5 = .ok (.invokevirtual 137, 3) := by decide +kernel
theorem dX8_tell_8 : decode cX8_tell 8 = .ok (.ifCond .ne 9, 3) := by decide +kernel
theorem dX8_tell_11 : decode cX8_tell 11 = .ok (.aload_n 0, 1) := by decide +kernel
theorem dX8_tell_12 : decode cX8_tell 12 = .ok (.iconst 4, 1) := by decide +kernel
theorem dX8_tell_13 : decode cX8_tell 13 = .ok (.invokevirtual 84, 3) := by decide +kernel
theorem dX8_tell_16 : decode cX8_tell 16 = .ok (.ireturn, 1) := by decide +kernel
theorem dX8_tell_17 : decode cX8_tell 17 = .ok (.aload_n 0, 1) := by decide +kernel
theorem dX8_tell_18 : decode cX8_tell 18 = .ok (.getfield 41, 3) := by decide +kernel
theorem dX8_tell_21 : decode cX8_tell 21 = .ok (.invokevirtual 133, 3) := by decide +kernel
theorem dX8_tell_24 : decode cX8_tell 24 = .ok (.ireturn, 1) := by decide +kernel
theorem dX8_check_0 : decode cX8_check 0 = .ok (.iconst 0, 1) := by decide +kernel
theorem dX8_check_1 : decode cX8_check 1 = .ok (.istore_n 1, 1) := by decide +kernel
theorem dX8_check_2 : decode cX8_check 2 = .ok (.iconst 0, 1) := by decide +kernel
theorem dX8_check_3 : decode cX8_check 3 = .ok (.istore_n 2, 1) := by decide +kernel
theorem dX8_check_4 : decode cX8_check 4 = .ok (.iload_n 2, 1) := by decide +kernel
theorem dX8_check_5 : decode cX8_check 5 = .ok (.aload_n 0, 1) := by decide +kernel
theorem dX8_check_6 : decode cX8_check 6 = .ok (.getfield 41, 3) := by decide +kernel
theorem dX8_check_9 : decode cX8_check 9 = .ok (.invokevirtual 133, 3) := by decide +kernel
theorem dX8_check_12 : decode cX8_check 12 = .ok (.if_icmp .ge 45, 3) := by decide +kernel
theorem dX8_check_15 : decode cX8_check 15 = .ok (.iload_n 1, 1) := by decide +kernel
theorem dX8_check_16 : decode cX8_check 16 = .ok (.ifCond .ne 41, 3) := by decide +kernel
theorem dX8_check_19 : decode cX8_check 19 = .ok (.aload_n 0, 1) := by decide +kernel
theorem dX8_check_20 : decode cX8_check 20 = .ok (.getfield 10, 3) := by decide +kernel
theorem dX8_check_23 : decode cX8_check 23 = .ok (.iload_n 2, 1) := by decide +kernel
theorem dX8_check_24 : decode cX8_check 24 = .ok (.invokevirtual 96, 3) := by decide +kernel
theorem dX8_check_27 : decode cX8_check 27 = .ok (.astore_n 3, 1) := by decide +kernel
theorem dX8_check_28 : decode cX8_check 28 = .ok (.aload_n 3, 1) := by decide +kernel
theorem dX8_check_29 : decode cX8_check 29 = .ok (.ifnull 18, 3) := by decide +kernel
theorem dX8_check_32 : decode cX8_check 32 = .ok (.aload_n 3, 1) := by decide +kernel
theorem dX8_check_33 : decode cX8_check 33 = .ok (.getfield 111, 3) := by decide +kernel
theorem dX8_check_36 : decode cX8_check 36 = .ok (.aload_n 0, 1) := by decide +kernel
theorem dX8_check_37 : decode cX8_check 37 = .ok (.getfield 41, 3) := by decide +kernel
theorem dX8_check_40 : decode cX8_check 40 = .ok (.iload_n 2, 1) := by decide +kernel
theorem dX8_check_41 : decode cX8_check 41 = .ok (.invokevirtual 241, 3) := by decide +kernel
theorem dX8_check_44 : decode cX8_check 44 = .ok (.if_icmp .eq 7, 3) := by decide +kernel
theorem dX8_check_47 : decode cX8_check 47 = .ok (.iconst 1, 1) := by decide +kernel
theorem dX8_check_48 : decode cX8_check 48 = .ok (.iload_n 2, 1) := by decide +kernel
theorem dX8_check_49 : decode cX8_check 49 = .ok (.iadd, 1) := by decide +kernel
theorem dX8_check_50 : decode cX8_check 50 = .ok (.istore_n 1, 1) := by decide +kernel
theorem dX8_check_51 : decode cX8_check 51 = .ok (.iinc 2 1, 3) := by decide +kernel
theorem dX8_check_54 : decode cX8_check 54 = .ok (.goto (-50), 3) := by decide +kernel
theorem dX8_check_57 : decode cX8_check 57 = .ok (.aload_n 0, 1) := by decide +kernel
theorem dX8_check_58 : decode cX8_check 58 = .ok (.getfield 41, 3) := by decide +kernel
theorem dX8_check_61 : decode cX8_check 61 = .ok (.invokevirtual 147, 3) := by decide +kernel
theorem dX8_check_64 : decode cX8_check 64 = .ok (.iload_n 1, 1) := by decide +kernel
theorem dX8_check_65 : decode cX8_check 65 = .ok (.ireturn, 1) := by decide +kernel
theorem dX8_count_0 : decode cX8_count 0 = .ok (.iload_n 1, 1) := by decide +kernel
theorem dX8_count_1 : decode cX8_count 1 = .ok (.tableswitch 114 0 7 #[47, 55, 63, 71, 79, 87, 95, 106], 47) := by decide +kernel
theorem dX8_count_48 : decode cX8_count 48 = .ok (.aload_n 0, 1) := by decide +kernel
theorem dX8_count_49 : decode cX8_count 49 = .ok (.getfield 10, 3) := by decide +kernel
theorem dX8_count_52 : decode cX8_count 52 = .ok (.getfield 202, 3) := by decide +kernel
theorem dX8_count_55 : decode cX8_count 55 = .ok (.ireturn, 1) := by decide +kernel
theorem dX8_count_56 : decode cX8_count 56 = .ok (.aload_n 0, 1) := by decide +kernel
theorem dX8_count_57 : decode cX8_count 57 = .ok (.getfield 10, 3) := by decide +kernel
theorem dX8_count_60 : decode cX8_count 60 = .ok (.getfield 121, 3) := by decide +kernel
theorem dX8_count_63 : decode cX8_count 63 = .ok (.ireturn, 1) := by decide +kernel
theorem dX8_count_64 : decode cX8_count 64 = .ok (.aload_n 0, 1) := by decide +kernel
theorem dX8_count_65 : decode cX8_count 65 = .ok (.getfield 10, 3) := by decide +kernel
theorem dX8_count_68 : decode cX8_count 68 = .ok (.getfield 167, 3) := by decide +kernel
theorem dX8_count_71 : decode cX8_count 71 = .ok (.ireturn, 1) := by decide +kernel
theorem dX8_count_72 : decode cX8_count 72 = .ok (.aload_n 0, 1) := by decide +kernel
theorem dX8_count_73 : decode cX8_count 73 = .ok (.getfield 10, 3) := by decide +kernel
theorem dX8_count_76 : decode cX8_count 76 = .ok (.getfield 266, 3) := by decide +kernel
theorem dX8_count_79 : decode cX8_count 79 = .ok (.ireturn, 1) := by decide +kernel
theorem dX8_count_80 : decode cX8_count 80 = .ok (.aload_n 0, 1) := by decide +kernel
theorem dX8_count_81 : decode cX8_count 81 = .ok (.getfield 34, 3) := by decide +kernel
theorem dX8_count_84 : decode cX8_count 84 = .ok (.invokevirtual 133, 3) := by decide +kernel
theorem dX8_count_87 : decode cX8_count 87 = .ok (.ireturn, 1) := by decide +kernel
theorem dX8_count_88 : decode cX8_count 88 = .ok (.aload_n 0, 1) := by decide +kernel
theorem dX8_count_89 : decode cX8_count 89 = .ok (.getfield 41, 3) := by decide +kernel
theorem dX8_count_92 : decode cX8_count 92 = .ok (.invokevirtual 133, 3) := by decide +kernel
theorem dX8_count_95 : decode cX8_count 95 = .ok (.ireturn, 1) := by decide +kernel
theorem dX8_count_96 : decode cX8_count 96 = .ok (.aload_n 0, 1) := by decide +kernel
theorem dX8_count_97 : decode cX8_count 97 = .ok (.getfield 57, 3) := by decide +kernel
theorem dX8_count_100 : decode cX8_count 100 = .ok (.getfield 235, 3) := by decide +kernel
theorem dX8_count_103 : decode cX8_count 103 = .ok (.invokevirtual 133, 3) := by decide +kernel
theorem dX8_count_106 : decode cX8_count 106 = .ok (.ireturn, 1) := by decide +kernel
theorem dX8_count_107 : decode cX8_count 107 = .ok (.aload_n 0, 1) := by decide +kernel
theorem dX8_count_108 : decode cX8_count 108 = .ok (.getfield 10, 3) := by decide +kernel
theorem dX8_count_111 : decode cX8_count 111 = .ok (.getfield 177, 3) := by decide +kernel
theorem dX8_count_114 : decode cX8_count 114 = .ok (.ireturn, 1) := by decide +kernel
theorem dX8_count_115 : decode cX8_count 115 = .ok (.aload_n 0, 1) := by decide +kernel
theorem dX8_count_116 : decode cX8_count 116 = .ok (.iconst 1, 1) := by decide +kernel
theorem dX8_count_117 : decode cX8_count 117 = .ok (.invokevirtual 84, 3) := by decide +kernel
theorem dX8_count_120 : decode cX8_count 120 = .ok (.ireturn, 1) := by decide +kernel
theorem dX8_told_0 : decode cX8_told 0 = .ok (.iload_n 1, 1) := by decide +kernel
theorem dX8_told_1 : decode cX8_told 1 = .ok (.iconst 1, 1) := by decide +kernel
theorem dX8_told_2 : decode cX8_told 2 = .ok (.bipush 6, 2) := by decide +kernel
theorem dX8_told_4 : decode cX8_told 4 = .ok (.invokestatic 80, 3) := by decide +kernel
theorem dX8_told_7 : decode cX8_told 7 = .ok (.ifCond .eq 12, 3) := by decide +kernel
theorem dX8_told_10 : decode cX8_told 10 = .ok (.aload_n 0, 1) := by decide +kernel
theorem dX8_told_11 : decode cX8_told 11 = .ok (.getfield 67, 3) := by decide +kernel
theorem dX8_told_14 : decode cX8_told 14 = .ok (.iload_n 1, 1) := by decide +kernel
theorem dX8_told_15 : decode cX8_told 15 = .ok (.iaload, 1) := by decide +kernel
theorem dX8_told_16 : decode cX8_told 16 = .ok (.goto 8, 3) := by decide +kernel
theorem dX8_told_19 : decode cX8_told 19 = .ok (.aload_n 0, 1) := by decide +kernel
theorem dX8_told_20 : decode cX8_told 20 = .ok (.iconst 1, 1) := by decide +kernel
theorem dX8_told_21 : decode cX8_told 21 = .ok (.invokevirtual 84, 3) := by decide +kernel
theorem dX8_told_24 : decode cX8_told 24 = .ok (.ireturn, 1) := by decide +kernel
theorem dX8_refuse_0 : decode cX8_refuse 0 = .ok (.iload_n 1, 1) := by decide +kernel
theorem dX8_refuse_1 : decode cX8_refuse 1 = .ok (.ifCond .lt 22, 3) := by decide +kernel
theorem dX8_refuse_4 : decode cX8_refuse 4 = .ok (.iload_n 1, 1) := by decide +kernel
theorem dX8_refuse_5 : decode cX8_refuse 5 = .ok (.aload_n 0, 1) := by decide +kernel
theorem dX8_refuse_6 : decode cX8_refuse 6 = .ok (.getfield 67, 3) := by decide +kernel
theorem dX8_refuse_9 : decode cX8_refuse 9 = .ok (.arraylength, 1) := by decide +kernel
theorem dX8_refuse_10 : decode cX8_refuse 10 = .ok (.if_icmp .ge 13, 3) := by decide +kernel
theorem dX8_refuse_13 : decode cX8_refuse 13 = .ok (.aload_n 0, 1) := by decide +kernel
theorem dX8_refuse_14 : decode cX8_refuse 14 = .ok (.getfield 67, 3) := by decide +kernel
theorem dX8_refuse_17 : decode cX8_refuse 17 = .ok (.iload_n 1, 1) := by decide +kernel
theorem dX8_refuse_18 : decode cX8_refuse 18 = .ok (.dup2, 1) := by decide +kernel
theorem dX8_refuse_19 : decode cX8_refuse 19 = .ok (.iaload, 1) := by decide +kernel
theorem dX8_refuse_20 : decode cX8_refuse 20 = .ok (.iconst 1, 1) := by decide +kernel
theorem dX8_refuse_21 : decode cX8_refuse 21 = .ok (.iadd, 1) := by decide +kernel
theorem dX8_refuse_22 : decode cX8_refuse 22 = .ok (.iastore, 1) := by decide +kernel
theorem dX8_refuse_23 : decode cX8_refuse 23 = .ok (.ldc_w 269, 3) := by decide +kernel
theorem dX8_refuse_26 : decode cX8_refuse 26 = .ok (.iload_n 1, 1) := by decide +kernel
theorem dX8_refuse_27 : decode cX8_refuse 27 = .ok (.isub, 1) := by decide +kernel
theorem dX8_refuse_28 : decode cX8_refuse 28 = .ok (.ireturn, 1) := by decide +kernel
theorem dX8_sheetAt_0 : decode cX8_sheetAt 0 = .ok (.iload_n 1, 1) := by decide +kernel
theorem dX8_sheetAt_1 : decode cX8_sheetAt 1 = .ok (.ifCond .lt 21, 3) := by decide +kernel
theorem dX8_sheetAt_4 : decode cX8_sheetAt 4 = .ok (.iload_n 1, 1) := by decide +kernel
theorem dX8_sheetAt_5 : decode cX8_sheetAt 5 = .ok (.aload_n 0, 1) := by decide +kernel
theorem dX8_sheetAt_6 : decode cX8_sheetAt 6 = .ok (.getfield 63, 3) := by decide +kernel
theorem dX8_sheetAt_9 : decode cX8_sheetAt 9 = .ok (.arraylength, 1) := by decide +kernel
theorem dX8_sheetAt_10 : decode cX8_sheetAt 10 = .ok (.if_icmp .ge 12, 3) := by decide +kernel
theorem dX8_sheetAt_13 : decode cX8_sheetAt 13 = .ok (.aload_n 0, 1) := by decide +kernel
theorem dX8_sheetAt_14 : decode cX8_sheetAt 14 = .ok (.getfield 63, 3) := by decide +kernel
theorem dX8_sheetAt_17 : decode cX8_sheetAt 17 = .ok (.iload_n 1, 1) := by decide +kernel
theorem dX8_sheetAt_18 : decode cX8_sheetAt 18 = .ok (.aaload, 1) := by decide +kernel
theorem dX8_sheetAt_19 : decode cX8_sheetAt 19 = .ok (.goto 4, 3) := by decide +kernel
theorem dX8_sheetAt_22 : decode cX8_sheetAt 22 = .ok (.aconst_null, 1) := by decide +kernel
theorem dX8_sheetAt_23 : decode cX8_sheetAt 23 = .ok (.areturn, 1) := by decide +kernel
theorem dX8_litNightsAhead_0 : decode cX8_litNightsAhead 0 = .ok (.aload_n 0, 1) := by decide +kernel
theorem dX8_litNightsAhead_1 : decode cX8_litNightsAhead 1 = .ok (.getfield 19, 3) := by decide +kernel
theorem dX8_litNightsAhead_4 : decode cX8_litNightsAhead 4 = .ok (.aload_n 0, 1) := by decide +kernel
theorem dX8_litNightsAhead_5 : decode cX8_litNightsAhead 5 = .ok (.getfield 10, 3) := by decide +kernel
theorem dX8_litNightsAhead_8 : decode cX8_litNightsAhead 8 = .ok (.invokevirtual 199, 3) := by decide +kernel
theorem dX8_litNightsAhead_11 : decode cX8_litNightsAhead 11 = .ok (.iconst 0, 1) := by decide +kernel
theorem dX8_litNightsAhead_12 : decode cX8_litNightsAhead 12 = .ok (.istore_n 2, 1) := by decide +kernel
theorem dX8_litNightsAhead_13 : decode cX8_litNightsAhead 13 = .ok (.iload_n 2, 1) := by decide +kernel
theorem dX8_litNightsAhead_14 : decode cX8_litNightsAhead 14 = .ok (.bipush 60, 2) := by decide +kernel
theorem dX8_litNightsAhead_16 : decode cX8_litNightsAhead 16 = .ok (.if_icmp .ge 24, 3) := by decide +kernel
theorem dX8_litNightsAhead_19 : decode cX8_litNightsAhead 19 = .ok (.aload_n 0, 1) := by decide +kernel
theorem dX8_litNightsAhead_20 : decode cX8_litNightsAhead 20 = .ok (.getfield 19, 3) := by decide +kernel
theorem dX8_litNightsAhead_23 : decode cX8_litNightsAhead 23 = .ok (.aload_n 0, 1) := by decide +kernel
theorem dX8_litNightsAhead_24 : decode cX8_litNightsAhead 24 = .ok (.getfield 25, 3) := by decide +kernel
theorem dX8_litNightsAhead_27 : decode cX8_litNightsAhead 27 = .ok (.iload_n 1, 1) := by decide +kernel
theorem dX8_litNightsAhead_28 : decode cX8_litNightsAhead 28 = .ok (.invokevirtual 170, 3) := by decide +kernel
theorem dX8_litNightsAhead_31 : decode cX8_litNightsAhead 31 = .ok (.ifCond .eq 9, 3) := by decide +kernel
theorem dX8_litNightsAhead_34 : decode cX8_litNightsAhead 34 = .ok (.iinc 2 1, 3) := by decide +kernel
theorem dX8_litNightsAhead_37 : decode cX8_litNightsAhead 37 = .ok (.goto (-24), 3) := by decide +kernel
theorem dX8_litNightsAhead_40 : decode cX8_litNightsAhead 40 = .ok (.iload_n 2, 1) := by decide +kernel
theorem dX8_litNightsAhead_41 : decode cX8_litNightsAhead 41 = .ok (.ireturn, 1) := by decide +kernel
theorem dX8_tellsWhatIsLeft_0 : decode cX8_tellsWhatIsLeft 0 = .ok (.iconst 0, 1) := by decide +kernel
theorem dX8_tellsWhatIsLeft_1 : decode cX8_tellsWhatIsLeft 1 = .ok (.istore_n 2, 1) := by decide +kernel
theorem dX8_tellsWhatIsLeft_2 : decode cX8_tellsWhatIsLeft 2 = .ok (.iload_n 2, 1) := by decide +kernel
theorem dX8_tellsWhatIsLeft_3 : decode cX8_tellsWhatIsLeft 3 = .ok (.bipush 24, 2) := by decide +kernel
theorem dX8_tellsWhatIsLeft_5 : decode cX8_tellsWhatIsLeft 5 = .ok (.if_icmp .ge 41, 3) := by decide +kernel
theorem dX8_tellsWhatIsLeft_8 : decode cX8_tellsWhatIsLeft 8 = .ok (.aload_n 0, 1) := by decide +kernel
theorem dX8_tellsWhatIsLeft_9 : decode cX8_tellsWhatIsLeft 9 = .ok (.iload_n 2, 1) := by decide +kernel
theorem dX8_tellsWhatIsLeft_10 : decode cX8_tellsWhatIsLeft 10 = .ok (.invokevirtual 247, 3) := by decide +kernel
theorem dX8_tellsWhatIsLeft_13 : decode cX8_tellsWhatIsLeft 13 = .ok (.ifCond .eq 33, 3) := by decide +kernel
theorem dX8_tellsWhatIsLeft_16 : decode cX8_tellsWhatIsLeft 16 = .ok (.aload_n 1, 1) := by decide +kernel
theorem dX8_tellsWhatIsLeft_17 : decode cX8_tellsWhatIsLeft 17 = .ok (.iload_n 2, 1) := by decide +kernel
theorem dX8_tellsWhatIsLeft_18 : decode cX8_tellsWhatIsLeft 18 = .ok (.invokevirtual 96, 3) := by decide +kernel
theorem dX8_tellsWhatIsLeft_21 : decode cX8_tellsWhatIsLeft 21 = .ok (.astore_n 3, 1) := by decide +kernel
theorem dX8_tellsWhatIsLeft_22 : decode cX8_tellsWhatIsLeft 22 = .ok (.aload_n 3, 1) := by decide +kernel
theorem dX8_tellsWhatIsLeft_23 : decode cX8_tellsWhatIsLeft 23 = .ok (.ifnull 15, 3) := by decide +kernel
theorem dX8_tellsWhatIsLeft_26 : decode cX8_tellsWhatIsLeft 26 = .ok (.aload_n 3, 1) := by decide +kernel
theorem dX8_tellsWhatIsLeft_27 : decode cX8_tellsWhatIsLeft 27 = .ok (.getfield 111, 3) := by decide +kernel
theorem dX8_tellsWhatIsLeft_30 : decode cX8_tellsWhatIsLeft 30 = .ok (.aload_n 0, 1) := by decide +kernel
theorem dX8_tellsWhatIsLeft_31 : decode cX8_tellsWhatIsLeft 31 = .ok (.iload_n 2, 1) := by decide +kernel
theorem dX8_tellsWhatIsLeft_32 : decode cX8_tellsWhatIsLeft 32 = .ok (.invokevirtual 262, 3) := by decide +kernel
theorem dX8_tellsWhatIsLeft_35 : decode cX8_tellsWhatIsLeft 35 = .ok (.if_icmp .eq 5, 3) := by decide +kernel
theorem dX8_tellsWhatIsLeft_38 : decode cX8_tellsWhatIsLeft 38 = .ok (.iconst 0, 1) := by decide +kernel
theorem dX8_tellsWhatIsLeft_39 : decode cX8_tellsWhatIsLeft 39 = .ok (.ireturn, 1) := by decide +kernel
theorem dX8_tellsWhatIsLeft_40 : decode cX8_tellsWhatIsLeft 40 = .ok (.iinc 2 1, 3) := by decide +kernel
theorem dX8_tellsWhatIsLeft_43 : decode cX8_tellsWhatIsLeft 43 = .ok (.goto (-41), 3) := by decide +kernel
theorem dX8_tellsWhatIsLeft_46 : decode cX8_tellsWhatIsLeft 46 = .ok (.iconst 1, 1) := by decide +kernel
theorem dX8_tellsWhatIsLeft_47 : decode cX8_tellsWhatIsLeft 47 = .ok (.ireturn, 1) := by decide +kernel
theorem dX8_inLowestTerms_0 : decode cX8_inLowestTerms 0 = .ok (.bipush 10, 2) := by decide +kernel
theorem dX8_inLowestTerms_2 : decode cX8_inLowestTerms 2 = .ok (.istore_n 2, 1) := by decide +kernel
theorem dX8_inLowestTerms_3 : decode cX8_inLowestTerms 3 = .ok (.iload_n 2, 1) := by decide +kernel
theorem dX8_inLowestTerms_4 : decode cX8_inLowestTerms 4 = .ok (.iconst 1, 1) := by decide +kernel
theorem dX8_inLowestTerms_5 : decode cX8_inLowestTerms 5 = .ok (.if_icmp .le 25, 3) := by decide +kernel
theorem dX8_inLowestTerms_8 : decode cX8_inLowestTerms 8 = .ok (.iload_n 0, 1) := by decide +kernel
theorem dX8_inLowestTerms_9 : decode cX8_inLowestTerms 9 = .ok (.iload_n 2, 1) := by decide +kernel
theorem dX8_inLowestTerms_10 : decode cX8_inLowestTerms 10 = .ok (.irem, 1) := by decide +kernel
theorem dX8_inLowestTerms_11 : decode cX8_inLowestTerms 11 = .ok (.ifCond .ne 13, 3) := by decide +kernel
theorem dX8_inLowestTerms_14 : decode cX8_inLowestTerms 14 = .ok (.iload_n 1, 1) := by decide +kernel
theorem dX8_inLowestTerms_15 : decode cX8_inLowestTerms 15 = .ok (.iload_n 2, 1) := by decide +kernel
theorem dX8_inLowestTerms_16 : decode cX8_inLowestTerms 16 = .ok (.irem, 1) := by decide +kernel
theorem dX8_inLowestTerms_17 : decode cX8_inLowestTerms 17 = .ok (.ifCond .ne 7, 3) := by decide +kernel
theorem dX8_inLowestTerms_20 : decode cX8_inLowestTerms 20 = .ok (.iload_n 0, 1) := by decide +kernel
theorem dX8_inLowestTerms_21 : decode cX8_inLowestTerms 21 = .ok (.iload_n 2, 1) := by decide +kernel
theorem dX8_inLowestTerms_22 : decode cX8_inLowestTerms 22 = .ok (.idiv, 1) := by decide +kernel
theorem dX8_inLowestTerms_23 : decode cX8_inLowestTerms 23 = .ok (.ireturn, 1) := by decide +kernel
theorem dX8_inLowestTerms_24 : decode cX8_inLowestTerms 24 = .ok (.iinc 2 (-1), 3) := by decide +kernel
theorem dX8_inLowestTerms_27 : decode cX8_inLowestTerms 27 = .ok (.goto (-24), 3) := by decide +kernel
theorem dX8_inLowestTerms_30 : decode cX8_inLowestTerms 30 = .ok (.iload_n 0, 1) := by decide +kernel
theorem dX8_inLowestTerms_31 : decode cX8_inLowestTerms 31 = .ok (.ireturn, 1) := by decide +kernel
theorem dX8_isWithin_0 : decode cX8_isWithin 0 = .ok (.iload_n 0, 1) := by decide +kernel
theorem dX8_isWithin_1 : decode cX8_isWithin 1 = .ok (.iload_n 1, 1) := by decide +kernel
theorem dX8_isWithin_2 : decode cX8_isWithin 2 = .ok (.if_icmp .lt 12, 3) := by decide +kernel
theorem dX8_isWithin_5 : decode cX8_isWithin 5 = .ok (.iload_n 0, 1) := by decide +kernel
theorem dX8_isWithin_6 : decode cX8_isWithin 6 = .ok (.iload_n 2, 1) := by decide +kernel
theorem dX8_isWithin_7 : decode cX8_isWithin 7 = .ok (.if_icmp .gt 7, 3) := by decide +kernel
theorem dX8_isWithin_10 : decode cX8_isWithin 10 = .ok (.iconst 1, 1) := by decide +kernel
theorem dX8_isWithin_11 : decode cX8_isWithin 11 = .ok (.goto 4, 3) := by decide +kernel
theorem dX8_isWithin_14 : decode cX8_isWithin 14 = .ok (.iconst 0, 1) := by decide +kernel
theorem dX8_isWithin_15 : decode cX8_isWithin 15 = .ok (.ireturn, 1) := by decide +kernel
theorem dX8_isKeeper_0 : decode cX8_isKeeper 0 = .ok (.iload_n 0, 1) := by decide +kernel
theorem dX8_isKeeper_1 : decode cX8_isKeeper 1 = .ok (.ifCond .lt 12, 3) := by decide +kernel
theorem dX8_isKeeper_4 : decode cX8_isKeeper 4 = .ok (.iload_n 0, 1) := by decide +kernel
theorem dX8_isKeeper_5 : decode cX8_isKeeper 5 = .ok (.iconst 4, 1) := by decide +kernel
theorem dX8_isKeeper_6 : decode cX8_isKeeper 6 = .ok (.if_icmp .ge 7, 3) := by decide +kernel
theorem dX8_isKeeper_9 : decode cX8_isKeeper 9 = .ok (.iconst 1, 1) := by decide +kernel
theorem dX8_isKeeper_10 : decode cX8_isKeeper 10 = .ok (.goto 4, 3) := by decide +kernel
theorem dX8_isKeeper_13 : decode cX8_isKeeper 13 = .ok (.iconst 0, 1) := by decide +kernel
theorem dX8_isKeeper_14 : decode cX8_isKeeper 14 = .ok (.ireturn, 1) := by decide +kernel
theorem dX8_isKindAndNumber_0 : decode cX8_isKindAndNumber 0 = .ok (.iload_n 0, 1) := by decide +kernel
theorem dX8_isKindAndNumber_1 : decode cX8_isKindAndNumber 1 = .ok (.ifCond .lt 13, 3) := by decide +kernel
theorem dX8_isKindAndNumber_4 : decode cX8_isKindAndNumber 4 = .ok (.iload_n 0, 1) := by decide +kernel
theorem dX8_isKindAndNumber_5 : decode cX8_isKindAndNumber 5 = .ok (.bipush 69, 2) := by decide +kernel
theorem dX8_isKindAndNumber_7 : decode cX8_isKindAndNumber 7 = .ok (.if_icmp .gt 7, 3) := by decide +kernel
theorem dX8_isKindAndNumber_10 : decode cX8_isKindAndNumber 10 = .ok (.iconst 1, 1) := by decide +kernel
theorem dX8_isKindAndNumber_11 : decode cX8_isKindAndNumber 11 = .ok (.goto 4, 3) := by decide +kernel
theorem dX8_isKindAndNumber_14 : decode cX8_isKindAndNumber 14 = .ok (.iconst 0, 1) := by decide +kernel
theorem dX8_isKindAndNumber_15 : decode cX8_isKindAndNumber 15 = .ok (.ireturn, 1) := by decide +kernel
theorem dX9_init_0 : decode cX9_init 0 = .ok (.aload_n 0, 1) := by decide +kernel
theorem dX9_init_1 : decode cX9_init 1 = .ok (.invokespecial 1, 3) := by decide +kernel
theorem dX9_init_4 : decode cX9_init 4 = .ok (.aload_n 0, 1) := by decide +kernel
theorem dX9_init_5 : decode cX9_init 5 = .ok (.sipush 387, 3) := by decide +kernel
theorem dX9_init_8 : decode cX9_init 8 = .ok (.newarray .int, 2) := by decide +kernel
theorem dX9_init_10 : decode cX9_init 10 = .ok (.putfield 7, 3) := by decide +kernel
theorem dX9_init_13 : decode cX9_init 13 = .ok (.aload_n 0, 1) := by decide +kernel
theorem dX9_init_14 : decode cX9_init 14 = .ok (.sipush 387, 3) := by decide +kernel
theorem dX9_init_17 : decode cX9_init 17 = .ok (.newarray .int, 2) := by decide +kernel
theorem dX9_init_19 : decode cX9_init 19 = .ok (.putfield 13, 3) := by decide +kernel
theorem dX9_init_22 : decode cX9_init 22 = .ok (.aload_n 0, 1) := by decide +kernel
theorem dX9_init_23 : decode cX9_init 23 = .ok (.bipush 53, 2) := by decide +kernel
theorem dX9_init_25 : decode cX9_init 25 = .ok (.newarray .int, 2) := by decide +kernel
theorem dX9_init_27 : decode cX9_init 27 = .ok (.putfield 16, 3) := by decide +kernel
theorem dX9_init_30 : decode cX9_init 30 = .ok (.aload_n 0, 1) := by decide +kernel
theorem dX9_init_31 : decode cX9_init 31 = .ok (.bipush 7, 2) := by decide +kernel
theorem dX9_init_33 : decode cX9_init 33 = .ok (.newarray .int, 2) := by decide +kernel
theorem dX9_init_35 : decode cX9_init 35 = .ok (.putfield 19, 3) := by decide +kernel
theorem dX9_init_38 : decode cX9_init 38 = .ok (.aload_n 0, 1) := by decide +kernel
theorem dX9_init_39 : decode cX9_init 39 = .ok (.iconst (-1), 1) := by decide +kernel
theorem dX9_init_40 : decode cX9_init 40 = .ok (.putfield 22, 3) := by decide +kernel
theorem dX9_init_43 : decode cX9_init 43 = .ok (.aload_n 0, 1) := by decide +kernel
theorem dX9_init_44 : decode cX9_init 44 = .ok (.bipush 124, 2) := by decide +kernel
theorem dX9_init_46 : decode cX9_init 46 = .ok (.newarray .int, 2) := by decide +kernel
theorem dX9_init_48 : decode cX9_init 48 = .ok (.putfield 26, 3) := by decide +kernel
theorem dX9_init_51 : decode cX9_init 51 = .ok (.aload_n 0, 1) := by decide +kernel
theorem dX9_init_52 : decode cX9_init 52 = .ok (.sipush 128, 3) := by decide +kernel
theorem dX9_init_55 : decode cX9_init 55 = .ok (.newarray .int, 2) := by decide +kernel
theorem dX9_init_57 : decode cX9_init 57 = .ok (.putfield 29, 3) := by decide +kernel
theorem dX9_init_60 : decode cX9_init 60 = .ok (.aload_n 0, 1) := by decide +kernel
theorem dX9_init_61 : decode cX9_init 61 = .ok (.bipush 64, 2) := by decide +kernel
theorem dX9_init_63 : decode cX9_init 63 = .ok (.newarray .int, 2) := by decide +kernel
theorem dX9_init_65 : decode cX9_init 65 = .ok (.putfield 32, 3) := by decide +kernel
theorem dX9_init_68 : decode cX9_init 68 = .ok (.aload_n 0, 1) := by decide +kernel
theorem dX9_init_69 : decode cX9_init 69 = .ok (.sipush 512, 3) := by decide +kernel
theorem dX9_init_72 : decode cX9_init 72 = .ok (.newarray .int, 2) := by decide +kernel
theorem dX9_init_74 : decode cX9_init 74 = .ok (.putfield 35, 3) := by decide +kernel
theorem dX9_init_77 : decode cX9_init 77 = .ok (.aload_n 0, 1) := by decide +kernel
theorem dX9_init_78 : decode cX9_init 78 = .ok (.sipush 512, 3) := by decide +kernel
theorem dX9_init_81 : decode cX9_init 81 = .ok (.newarray .int, 2) := by decide +kernel
theorem dX9_init_83 : decode cX9_init 83 = .ok (.putfield 38, 3) := by decide +kernel
theorem dX9_init_86 : decode cX9_init 86 = .ok (.aload_n 0, 1) := by decide +kernel
theorem dX9_init_87 : decode cX9_init 87 = .ok (.bipush 30, 2) := by decide +kernel
theorem dX9_init_89 : decode cX9_init 89 = .ok (.newarray .int, 2) := by decide +kernel
theorem dX9_init_91 : decode cX9_init 91 = .ok (.putfield 41, 3) := by decide +kernel
theorem dX9_init_94 : decode cX9_init 94 = .ok (.aload_n 0, 1) := by decide +kernel
theorem dX9_init_95 : decode cX9_init 95 = .ok (.iconst 4, 1) := by decide +kernel
theorem dX9_init_96 : decode cX9_init 96 = .ok (.newarray .int, 2) := by decide +kernel
theorem dX9_init_98 : decode cX9_init 98 = .ok (.putfield 44, 3) := by decide +kernel
theorem dX9_init_101 : decode cX9_init 101 = .ok (.aload_n 0, 1) := by decide +kernel
theorem dX9_init_102 : decode cX9_init 102 = .ok (.iconst 4, 1) := by decide +kernel
theorem dX9_init_103 : decode cX9_init 103 = .ok (.newarray .int, 2) := by decide +kernel
theorem dX9_init_105 : decode cX9_init 105 = .ok (.putfield 47, 3) := by decide +kernel
theorem dX9_init_108 : decode cX9_init 108 = .ok (.aload_n 0, 1) := by decide +kernel
theorem dX9_init_109 : decode cX9_init 109 = .ok (.bipush 96, 2) := by decide +kernel
theorem dX9_init_111 : decode cX9_init 111 = .ok (.newarray .int, 2) := by decide +kernel
theorem dX9_init_113 : decode cX9_init 113 = .ok (.putfield 50, 3) := by decide +kernel
theorem dX9_init_116 : decode cX9_init 116 = .ok (.aload_n 0, 1) := by decide +kernel
theorem dX9_init_117 : decode cX9_init 117 = .ok (.bipush 24, 2) := by decide +kernel
theorem dX9_init_119 : decode cX9_init 119 = .ok (.newarray .int, 2) := by decide +kernel
theorem dX9_init_121 : decode cX9_init 121 = .ok (.putfield 53, 3) := by decide +kernel
theorem dX9_init_124 : decode cX9_init 124 = .ok (.aload_n 0, 1) := by decide +kernel
theorem dX9_init_125 : decode cX9_init 125 = .ok (.getfield 7, 3) := by decide +kernel
theorem dX9_init_128 : decode cX9_init 128 = .ok (.iconst 3, 1) := by decide +kernel
theorem dX9_init_129 : decode cX9_init 129 = .ok (.iconst 1, 1) := by decide +kernel
theorem dX9_init_130 : decode cX9_init 130 = .ok (.iastore, 1) := by decide +kernel
theorem dX9_init_131 : decode cX9_init 131 = .ok (.return_, 1) := by decide +kernel
theorem dX9_error_0 : decode cX9_error 0 = .ok (.aload_n 0, 1) := by decide +kernel
theorem dX9_error_1 : decode cX9_error 1 = .ok (.getfield 19, 3) := by decide +kernel
theorem dX9_error_4 : decode cX9_error 4 = .ok (.iload_n 1, 1) := by decide +kernel
theorem dX9_error_5 : decode cX9_error 5 = .ok (.dup2, 1) := by decide +kernel
theorem dX9_error_6 : decode cX9_error 6 = .ok (.iaload, 1) := by decide +kernel
theorem dX9_error_7 : decode cX9_error 7 = .ok (.iconst 1, 1) := by decide +kernel
theorem dX9_error_8 : decode cX9_error 8 = .ok (.iadd, 1) := by decide +kernel
theorem dX9_error_9 : decode cX9_error 9 = .ok (.iastore, 1) := by decide +kernel
theorem dX9_error_10 : decode cX9_error 10 = .ok (.ldc 56, 2) := by decide +kernel
theorem dX9_error_12 : decode cX9_error 12 = .ok (.iload_n 1, 1) := by decide +kernel
theorem dX9_error_13 : decode cX9_error 13 = .ok (.isub, 1) := by decide +kernel
theorem dX9_error_14 : decode cX9_error 14 = .ok (.ireturn, 1) := by decide +kernel
theorem dX9_in_0 : decode cX9_in 0 = .ok (.iload_n 0, 1) := by decide +kernel
theorem dX9_in_1 : decode cX9_in 1 = .ok (.iload_n 1, 1) := by decide +kernel
theorem dX9_in_2 : decode cX9_in 2 = .ok (.if_icmp .lt 12, 3) := by decide +kernel
theorem dX9_in_5 : decode cX9_in 5 = .ok (.iload_n 0, 1) := by decide +kernel
theorem dX9_in_6 : decode cX9_in 6 = .ok (.iload_n 2, 1) := by decide +kernel
theorem dX9_in_7 : decode cX9_in 7 = .ok (.if_icmp .gt 7, 3) := by decide +kernel
theorem dX9_in_10 : decode cX9_in 10 = .ok (.iconst 1, 1) := by decide +kernel
theorem dX9_in_11 : decode cX9_in 11 = .ok (.goto 4, 3) := by decide +kernel
theorem dX9_in_14 : decode cX9_in 14 = .ok (.iconst 0, 1) := by decide +kernel
theorem dX9_in_15 : decode cX9_in 15 = .ok (.ireturn, 1) := by decide +kernel
theorem dX9_held_0 : decode cX9_held 0 = .ok (.iload_n 0, 1) := by decide +kernel
theorem dX9_held_1 : decode cX9_held 1 = .ok (.iload_n 1, 1) := by decide +kernel
theorem dX9_held_2 : decode cX9_held 2 = .ok (.if_icmp .ge 7, 3) := by decide +kernel
theorem dX9_held_5 : decode cX9_held 5 = .ok (.iload_n 1, 1) := by decide +kernel
theorem dX9_held_6 : decode cX9_held 6 = .ok (.goto 13, 3) := by decide +kernel
theorem dX9_held_9 : decode cX9_held 9 = .ok (.iload_n 0, 1) := by decide +kernel
theorem dX9_held_10 : decode cX9_held 10 = .ok (.iload_n 2, 1) := by decide +kernel
theorem dX9_held_11 : decode cX9_held 11 = .ok (.if_icmp .le 7, 3) := by decide +kernel
theorem dX9_held_14 : decode cX9_held 14 = .ok (.iload_n 2, 1) := by decide +kernel
theorem dX9_held_15 : decode cX9_held 15 = .ok (.goto 4, 3) := by decide +kernel
theorem dX9_held_18 : decode cX9_held 18 = .ok (.iload_n 0, 1) := by decide +kernel
theorem dX9_held_19 : decode cX9_held 19 = .ok (.ireturn, 1) := by decide +kernel
theorem dX9_copyAll_0 : decode cX9_copyAll 0 = .ok (.iconst 0, 1) := by decide +kernel
theorem dX9_copyAll_1 : decode cX9_copyAll 1 = .ok (.istore_n 2, 1) := by decide +kernel
theorem dX9_copyAll_2 : decode cX9_copyAll 2 = .ok (.iload_n 2, 1) := by decide +kernel
theorem dX9_copyAll_3 : decode cX9_copyAll 3 = .ok (.sipush 387, 3) := by decide +kernel
theorem dX9_copyAll_6 : decode cX9_copyAll 6 = .ok (.if_icmp .ge 15, 3) := by decide +kernel
theorem dX9_copyAll_9 : decode cX9_copyAll 9 = .ok (.aload_n 1, 1) := by decide +kernel
theorem dX9_copyAll_10 : decode cX9_copyAll 10 = .ok (.iload_n 2, 1) := by decide +kernel
theorem dX9_copyAll_11 : decode cX9_copyAll 11 = .ok (.aload_n 0, 1) := by decide +kernel
theorem dX9_copyAll_12 : decode cX9_copyAll 12 = .ok (.iload_n 2, 1) := by decide +kernel
theorem dX9_copyAll_13 : decode cX9_copyAll 13 = .ok (.iaload, 1) := by decide +kernel
theorem dX9_copyAll_14 : decode cX9_copyAll 14 = .ok (.iastore, 1) := by decide +kernel
theorem dX9_copyAll_15 : decode cX9_copyAll 15 = .ok (.iinc 2 1, 3) := by decide +kernel
theorem dX9_copyAll_18 : decode cX9_copyAll 18 = .ok (.goto (-16), 3) := by decide +kernel
theorem dX9_copyAll_21 : decode cX9_copyAll 21 = .ok (.return_, 1) := by decide +kernel
theorem dX9_layDown_0 : decode cX9_layDown 0 = .ok (.iconst 0, 1) := by decide +kernel
theorem dX9_layDown_1 : decode cX9_layDown 1 = .ok (.istore_n 1, 1) := by decide +kernel
theorem dX9_layDown_2 : decode cX9_layDown 2 = .ok (.iload_n 1, 1) := by decide +kernel
theorem dX9_layDown_3 : decode cX9_layDown 3 = .ok (.bipush 53, 2) := by decide +kernel
theorem dX9_layDown_5 : decode cX9_layDown 5 = .ok (.if_icmp .ge 21, 3) := by decide +kernel
theorem dX9_layDown_8 : decode cX9_layDown 8 = .ok (.aload_n 0, 1) := by decide +kernel
theorem dX9_layDown_9 : decode cX9_layDown 9 = .ok (.getfield 16, 3) := by decide +kernel
theorem dX9_layDown_12 : decode cX9_layDown 12 = .ok (.iload_n 1, 1) := by decide +kernel
theorem dX9_layDown_13 : decode cX9_layDown 13 = .ok (.aload_n 0, 1) := by decide +kernel
theorem dX9_layDown_14 : decode cX9_layDown 14 = .ok (.getfield 7, 3) := by decide +kernel
theorem dX9_layDown_17 : decode cX9_layDown 17 = .ok (.iload_n 1, 1) := by decide +kernel
theorem dX9_layDown_18 : decode cX9_layDown 18 = .ok (.iaload, 1) := by decide +kernel
theorem dX9_layDown_19 : decode cX9_layDown 19 = .ok (.iastore, 1) := by decide +kernel
theorem dX9_layDown_20 : decode cX9_layDown 20 = .ok (.iinc 1 1, 3) := by decide +kernel
theorem dX9_layDown_23 : decode cX9_layDown 23 = .ok (.goto (-21), 3) := by decide +kernel
theorem dX9_layDown_26 : decode cX9_layDown 26 = .ok (.return_, 1) := by decide +kernel
theorem dX9_layBack_0 : decode cX9_layBack 0 = .ok (.iconst 0, 1) := by decide +kernel
theorem dX9_layBack_1 : decode cX9_layBack 1 = .ok (.istore_n 1, 1) := by decide +kernel
theorem dX9_layBack_2 : decode cX9_layBack 2 = .ok (.iload_n 1, 1) := by decide +kernel
theorem dX9_layBack_3 : decode cX9_layBack 3 = .ok (.bipush 53, 2) := by decide +kernel
theorem dX9_layBack_5 : decode cX9_layBack 5 = .ok (.if_icmp .ge 21, 3) := by decide +kernel
theorem dX9_layBack_8 : decode cX9_layBack 8 = .ok (.aload_n 0, 1) := by decide +kernel
theorem dX9_layBack_9 : decode cX9_layBack 9 = .ok (.getfield 7, 3) := by decide +kernel
theorem dX9_layBack_12 : decode cX9_layBack 12 = .ok (.iload_n 1, 1) := by decide +kernel
theorem dX9_layBack_13 : decode cX9_layBack 13 = .ok (.aload_n 0, 1) := by decide +kernel
theorem dX9_layBack_14 : decode cX9_layBack 14 = .ok (.getfield 16, 3) := by decide +kernel
theorem dX9_layBack_17 : decode cX9_layBack 17 = .ok (.iload_n 1, 1) := by decide +kernel
theorem dX9_layBack_18 : decode cX9_layBack 18 = .ok (.iaload, 1) := by decide +kernel
theorem dX9_layBack_19 : decode cX9_layBack 19 = .ok (.iastore, 1) := by decide +kernel
theorem dX9_layBack_20 : decode cX9_layBack 20 = .ok (.iinc 1 1, 3) := by decide +kernel
theorem dX9_layBack_23 : decode cX9_layBack 23 = .ok (.goto (-21), 3) := by decide +kernel
theorem dX9_layBack_26 : decode cX9_layBack 26 = .ok (.return_, 1) := by decide +kernel
theorem dX9_isMemory_0 : decode cX9_isMemory 0 = .ok (.iload_n 1, 1) := by decide +kernel
theorem dX9_isMemory_1 : decode cX9_isMemory 1 = .ok (.iconst 0, 1) := by decide +kernel
theorem dX9_isMemory_2 : decode cX9_isMemory 2 = .ok (.aload_n 0, 1) := by decide +kernel
theorem dX9_isMemory_3 : decode cX9_isMemory 3 = .ok (.getfield 7, 3) := by decide +kernel
theorem dX9_isMemory_6 : decode cX9_isMemory 6 = .ok (.bipush 6, 2) := by decide +kernel
theorem dX9_isMemory_8 : decode cX9_isMemory 8 = .ok (.iaload, 1) := by decide +kernel
theorem dX9_isMemory_9 : decode cX9_isMemory 9 = .ok (.iconst 1, 1) := by decide +kernel
theorem dX9_isMemory_10 : decode cX9_isMemory 10 = .ok (.isub, 1) := by decide +kernel
theorem dX9_isMemory_11 : decode cX9_isMemory 11 = .ok (.invokestatic 57, 3) := by decide +kernel
theorem dX9_isMemory_14 : decode cX9_isMemory 14 = .ok (.ireturn, 1) := by decide +kernel
theorem dX9_isKeeper_0 : decode cX9_isKeeper 0 = .ok (.iload_n 0, 1) := by decide +kernel
theorem dX9_isKeeper_1 : decode cX9_isKeeper 1 = .ok (.iconst 0, 1) := by decide +kernel
theorem dX9_isKeeper_2 : decode cX9_isKeeper 2 = .ok (.iconst 3, 1) := by decide +kernel
theorem dX9_isKeeper_3 : decode cX9_isKeeper 3 = .ok (.invokestatic 57, 3) := by decide +kernel
theorem dX9_isKeeper_6 : decode cX9_isKeeper 6 = .ok (.ireturn, 1) := by decide +kernel
theorem dX9_its_0 : decode cX9_its 0 = .ok (.aload_n 0, 1) := by decide +kernel
theorem dX9_its_1 : decode cX9_its 1 = .ok (.getfield 7, 3) := by decide +kernel
theorem dX9_its_4 : decode cX9_its 4 = .ok (.bipush 8, 2) := by decide +kernel
theorem dX9_its_6 : decode cX9_its 6 = .ok (.iconst 5, 1) := by decide +kernel
theorem dX9_its_7 : decode cX9_its 7 = .ok (.iload_n 1, 1) := by decide +kernel
theorem dX9_its_8 : decode cX9_its 8 = .ok (.imul, 1) := by decide +kernel
theorem dX9_its_9 : decode cX9_its 9 = .ok (.iadd, 1) := by decide +kernel
theorem dX9_its_10 : decode cX9_its 10 = .ok (.iload_n 2, 1) := by decide +kernel
theorem dX9_its_11 : decode cX9_its 11 = .ok (.iadd, 1) := by decide +kernel
theorem dX9_its_12 : decode cX9_its 12 = .ok (.iaload, 1) := by decide +kernel
theorem dX9_its_13 : decode cX9_its 13 = .ok (.ireturn, 1) := by decide +kernel
theorem dX9_lays1_0 : decode cX9_lays1 0 = .ok (.aload_n 0, 1) := by decide +kernel
theorem dX9_lays1_1 : decode cX9_lays1 1 = .ok (.getfield 7, 3) := by decide +kernel
theorem dX9_lays1_4 : decode cX9_lays1 4 = .ok (.bipush 8, 2) := by decide +kernel
theorem dX9_lays1_6 : decode cX9_lays1 6 = .ok (.iconst 5, 1) := by decide +kernel
theorem dX9_lays1_7 : decode cX9_lays1 7 = .ok (.iload_n 1, 1) := by decide +kernel
theorem dX9_lays1_8 : decode cX9_lays1 8 = .ok (.imul, 1) := by decide +kernel
theorem dX9_lays1_9 : decode cX9_lays1 9 = .ok (.iadd, 1) := by decide +kernel
theorem dX9_lays1_10 : decode cX9_lays1 10 = .ok (.iload_n 2, 1) := by decide +kernel
theorem dX9_lays1_11 : decode cX9_lays1 11 = .ok (.iadd, 1) := by decide +kernel
theorem dX9_lays1_12 : decode cX9_lays1 12 = .ok (.iload_n 3, 1) := by decide +kernel
theorem dX9_lays1_13 : decode cX9_lays1 13 = .ok (.iastore, 1) := by decide +kernel
theorem dX9_lays1_14 : decode cX9_lays1 14 = .ok (.return_, 1) := by decide +kernel
theorem dX9_change1_0 : decode cX9_change1 0 = .ok (.aload_n 0, 1) := by decide +kernel
theorem dX9_change1_1 : decode cX9_change1 1 = .ok (.getfield 7, 3) := by decide +kernel
theorem dX9_change1_4 : decode cX9_change1 4 = .ok (.iload_n 1, 1) := by decide +kernel
theorem dX9_change1_5 : decode cX9_change1 5 = .ok (.iaload, 1) := by decide +kernel
theorem dX9_change1_6 : decode cX9_change1 6 = .ok (.istore_n 3, 1) := by decide +kernel
theorem dX9_change1_7 : decode cX9_change1 7 = .ok (.aload_n 0, 1) := by decide +kernel
theorem dX9_change1_8 : decode cX9_change1 8 = .ok (.getfield 7, 3) := by decide +kernel
theorem dX9_change1_11 : decode cX9_change1 11 = .ok (.iload_n 1, 1) := by decide +kernel
theorem dX9_change1_12 : decode cX9_change1 12 = .ok (.iload_n 2, 1) := by decide +kernel
theorem dX9_change1_13 : decode cX9_change1 13 = .ok (.iastore, 1) := by decide +kernel
theorem dX9_change1_14 : decode cX9_change1 14 = .ok (.iload_n 3, 1) := by decide +kernel
theorem dX9_change1_15 : decode cX9_change1 15 = .ok (.ireturn, 1) := by decide +kernel
theorem dX9_manyIn_0 : decode cX9_manyIn 0 = .ok (.iconst 0, 1) := by decide +kernel
theorem dX9_manyIn_1 : decode cX9_manyIn 1 = .ok (.istore_n 1, 1) := by decide +kernel
theorem dX9_manyIn_2 : decode cX9_manyIn 2 = .ok (.iconst 0, 1) := by decide +kernel
theorem dX9_manyIn_3 : decode cX9_manyIn 3 = .ok (.istore_n 2, 1) := by decide +kernel
theorem dX9_manyIn_4 : decode cX9_manyIn 4 = .ok (.iload_n 2, 1) := by decide +kernel
theorem dX9_manyIn_5 : decode cX9_manyIn 5 = .ok (.iconst 4, 1) := by decide +kernel
theorem dX9_manyIn_6 : decode cX9_manyIn 6 = .ok (.if_icmp .ge 17, 3) := by decide +kernel
theorem dX9_manyIn_9 : decode cX9_manyIn 9 = .ok (.iload_n 1, 1) := by decide +kernel
theorem dX9_manyIn_10 : decode cX9_manyIn 10 = .ok (.iload_n 0, 1) := by decide +kernel
theorem dX9_manyIn_11 : decode cX9_manyIn 11 = .ok (.iload_n 2, 1) := by decide +kernel
theorem dX9_manyIn_12 : decode cX9_manyIn 12 = .ok (.ishr, 1) := by decide +kernel
theorem dX9_manyIn_13 : decode cX9_manyIn 13 = .ok (.iconst 1, 1) := by decide +kernel
theorem dX9_manyIn_14 : decode cX9_manyIn 14 = .ok (.iand, 1) := by decide +kernel
theorem dX9_manyIn_15 : decode cX9_manyIn 15 = .ok (.iadd, 1) := by decide +kernel
theorem dX9_manyIn_16 : decode cX9_manyIn 16 = .ok (.istore_n 1, 1) := by decide +kernel
theorem dX9_manyIn_17 : decode cX9_manyIn 17 = .ok (.iinc 2 1, 3) := by decide +kernel
theorem dX9_manyIn_20 : decode cX9_manyIn 20 = .ok (.goto (-16), 3) := by decide +kernel
theorem dX9_manyIn_23 : decode cX9_manyIn 23 = .ok (.iload_n 1, 1) := by decide +kernel
theorem dX9_manyIn_24 : decode cX9_manyIn 24 = .ok (.ireturn, 1) := by decide +kernel
theorem dX9_feed_0 : decode cX9_feed 0 = .ok (.iload_n 3, 1) := by decide +kernel
theorem dX9_feed_1 : decode cX9_feed 1 = .ok (.iconst 1, 1) := by decide +kernel
theorem dX9_feed_2 : decode cX9_feed 2 = .ok (.bipush 8, 2) := by decide +kernel
theorem dX9_feed_4 : decode cX9_feed 4 = .ok (.invokestatic 57, 3) := by decide +kernel
theorem dX9_feed_7 : decode cX9_feed 7 = .ok (.ifCond .ne 9, 3) := by decide +kernel
theorem dX9_feed_10 : decode cX9_feed 10 = .ok (.aload_n 0, 1) := by decide +kernel
theorem dX9_feed_11 : decode cX9_feed 11 = .ok (.iconst 1, 1) := by decide +kernel
theorem dX9_feed_12 : decode cX9_feed 12 = .ok (.invokevirtual 61, 3) := by decide +kernel
theorem dX9_feed_15 : decode cX9_feed 15 = .ok (.ireturn, 1) := by decide +kernel
theorem dX9_feed_16 : decode cX9_feed 16 = .ok (.aload_n 0, 1) := by decide +kernel
theorem dX9_feed_17 : decode cX9_feed 17 = .ok (.getfield 7, 3) := by decide +kernel
theorem dX9_feed_20 : decode cX9_feed 20 = .ok (.iconst 4, 1) := by decide +kernel
theorem dX9_feed_21 : decode cX9_feed 21 = .ok (.iaload, 1) := by decide +kernel
theorem dX9_feed_22 : decode cX9_feed 22 = .ok (.iload_n 3, 1) := by decide +kernel
theorem dX9_feed_23 : decode cX9_feed 23 = .ok (.iadd, 1) := by decide +kernel
theorem dX9_feed_24 : decode cX9_feed 24 = .ok (.bipush 60, 2) := by decide +kernel
theorem dX9_feed_26 : decode cX9_feed 26 = .ok (.if_icmp .le 9, 3) := by decide +kernel
theorem dX9_feed_29 : decode cX9_feed 29 = .ok (.aload_n 0, 1) := by decide +kernel
theorem dX9_feed_30 : decode cX9_feed 30 = .ok (.iconst 4, 1) := by decide +kernel
theorem dX9_feed_31 : decode cX9_feed 31 = .ok (.invokevirtual 61, 3) := by decide +kernel
theorem dX9_feed_34 : decode cX9_feed 34 = .ok (.ireturn, 1) := by decide +kernel
theorem dX9_feed_35 : decode cX9_feed 35 = .ok (.iconst 0, 1) := by decide +kernel
theorem dX9_feed_36 : decode cX9_feed 36 = .ok (.istore 4, 2) := by decide +kernel
theorem dX9_feed_38 : decode cX9_feed 38 = .ok (.iload 4, 2) := by decide +kernel
theorem dX9_feed_40 : decode cX9_feed 40 = .ok (.iload_n 3, 1) := by decide +kernel
theorem dX9_feed_41 : decode cX9_feed 41 = .ok (.if_icmp .ge 46, 3) := by decide +kernel
theorem dX9_feed_44 : decode cX9_feed 44 = .ok (.aload_n 0, 1) := by decide +kernel
theorem dX9_feed_45 : decode cX9_feed 45 = .ok (.getfield 7, 3) := by decide +kernel
theorem dX9_feed_48 : decode cX9_feed 48 = .ok (.sipush 303, 3) := by decide +kernel
theorem dX9_feed_51 : decode cX9_feed 51 = .ok (.aload_n 0, 1) := by decide +kernel
theorem dX9_feed_52 : decode cX9_feed 52 = .ok (.getfield 7, 3) := by decide +kernel
theorem dX9_feed_55 : decode cX9_feed 55 = .ok (.iconst 4, 1) := by decide +kernel
theorem dX9_feed_56 : decode cX9_feed 56 = .ok (.iaload, 1) := by decide +kernel
theorem dX9_feed_57 : decode cX9_feed 57 = .ok (.iadd, 1) := by decide +kernel
theorem dX9_feed_58 : decode cX9_feed 58 = .ok (.lload_n 1, 1) := by decide +kernel
theorem dX9_feed_59 : decode cX9_feed 59 = .ok (.bipush 8, 2) := by decide +kernel
theorem dX9_feed_61 : decode cX9_feed 61 = .ok (.iload 4, 2) := by decide +kernel
theorem dX9_feed_63 : decode cX9_feed 63 = .ok (.imul, 1) := by decide +kernel
theorem dX9_feed_64 : decode cX9_feed 64 = .ok (.lshr, 1) := by decide +kernel
theorem dX9_feed_65 : decode cX9_feed 65 = .ok (.ldc2_w 65, 3) := by decide +kernel
theorem dX9_feed_68 : decode cX9_feed 68 = .ok (.land, 1) := by decide +kernel
theorem dX9_feed_69 : decode cX9_feed 69 = .ok (.l2i, 1) := by decide +kernel
theorem dX9_feed_70 : decode cX9_feed 70 = .ok (.iastore, 1) := by decide +kernel
theorem dX9_feed_71 : decode cX9_feed 71 = .ok (.aload_n 0, 1) := by decide +kernel
theorem dX9_feed_72 : decode cX9_feed 72 = .ok (.getfield 7, 3) := by decide +kernel
theorem dX9_feed_75 : decode cX9_feed 75 = .ok (.iconst 4, 1) := by decide +kernel
theorem dX9_feed_76 : decode cX9_feed 76 = .ok (.dup2, 1) := by decide +kernel
theorem dX9_feed_77 : decode cX9_feed 77 = .ok (.iaload, 1) := by decide +kernel
theorem dX9_feed_78 : decode cX9_feed 78 = .ok (.iconst 1, 1) := by decide +kernel
theorem dX9_feed_79 : decode cX9_feed 79 = .ok (.iadd, 1) := by decide +kernel
theorem dX9_feed_80 : decode cX9_feed 80 = .ok (.iastore, 1) := by decide +kernel
theorem dX9_feed_81 : decode cX9_feed 81 = .ok (.iinc 4 1, 3) := by decide +kernel
theorem dX9_feed_84 : decode cX9_feed 84 = .ok (.goto (-46), 3) := by decide +kernel
theorem dX9_feed_87 : decode cX9_feed 87 = .ok (.aload_n 0, 1) := by decide +kernel
theorem dX9_feed_88 : decode cX9_feed 88 = .ok (.getfield 7, 3) := by decide +kernel
theorem dX9_feed_91 : decode cX9_feed 91 = .ok (.iconst 4, 1) := by decide +kernel
theorem dX9_feed_92 : decode cX9_feed 92 = .ok (.iaload, 1) := by decide +kernel
theorem dX9_feed_93 : decode cX9_feed 93 = .ok (.ireturn, 1) := by decide +kernel
theorem dX9_look_0 : decode cX9_look 0 = .ok (.aload_n 0, 1) := by decide +kernel
theorem dX9_look_1 : decode cX9_look 1 = .ok (.getfield 67, 3) := by decide +kernel
theorem dX9_look_4 : decode cX9_look 4 = .ok (.aload_n 0, 1) := by decide +kernel
theorem dX9_look_5 : decode cX9_look 5 = .ok (.getfield 7, 3) := by decide +kernel
theorem dX9_look_8 : decode cX9_look 8 = .ok (.iconst 4, 1) := by decide +kernel
theorem dX9_look_9 : decode cX9_look 9 = .ok (.iaload, 1) := by decide +kernel
theorem dX9_look_10 : decode cX9_look 10 = .ok (.if_icmp .ge 19, 3) := by decide +kernel
theorem dX9_look_13 : decode cX9_look 13 = .ok (.aload_n 0, 1) := by decide +kernel
theorem dX9_look_14 : decode cX9_look 14 = .ok (.getfield 7, 3) := by decide +kernel
theorem dX9_look_17 : decode cX9_look 17 = .ok (.sipush 303, 3) := by decide +kernel
theorem dX9_look_20 : decode cX9_look 20 = .ok (.aload_n 0, 1) := by decide +kernel
theorem dX9_look_21 : decode cX9_look 21 = .ok (.getfield 67, 3) := by decide +kernel
theorem dX9_look_24 : decode cX9_look 24 = .ok (.iadd, 1) := by decide +kernel
theorem dX9_look_25 : decode cX9_look 25 = .ok (.iaload, 1) := by decide +kernel
theorem dX9_look_26 : decode cX9_look 26 = .ok (.goto 4, 3) := by decide +kernel
theorem dX9_look_29 : decode cX9_look 29 = .ok (.iconst (-1), 1) := by decide +kernel
theorem dX9_look_30 : decode cX9_look 30 = .ok (.ireturn, 1) := by decide +kernel
theorem dX9_isName_0 : decode cX9_isName 0 = .ok (.iload_n 1, 1) := by decide +kernel
theorem dX9_isName_1 : decode cX9_isName 1 = .ok (.aload_n 0, 1) := by decide +kernel
theorem dX9_isName_2 : decode cX9_isName 2 = .ok (.getfield 70, 3) := by decide +kernel
theorem dX9_isName_5 : decode cX9_isName 5 = .ok (.ifCond .ne 8, 3) := by decide +kernel
theorem dX9_isName_8 : decode cX9_isName 8 = .ok (.bipush 108, 2) := by decide +kernel
theorem dX9_isName_10 : decode cX9_isName 10 = .ok (.goto 5, 3) := by decide +kernel
theorem dX9_isName_13 : decode cX9_isName 13 = .ok (.bipush 119, 2) := by decide +kernel
theorem dX9_isName_15 : decode cX9_isName 15 = .ok (.if_icmp .ne 5, 3) := by decide +kernel
theorem dX9_isName_18 : decode cX9_isName 18 = .ok (.iconst 1, 1) := by decide +kernel
theorem dX9_isName_19 : decode cX9_isName 19 = .ok (.ireturn, 1) := by decide +kernel
theorem dX9_isName_20 : decode cX9_isName 20 = .ok (.aload_n 0, 1) := by decide +kernel
theorem dX9_isName_21 : decode cX9_isName 21 = .ok (.getfield 70, 3) := by decide +kernel
theorem dX9_isName_24 : decode cX9_isName 24 = .ok (.ifCond .ne 23, 3) := by decide +kernel
theorem dX9_isName_27 : decode cX9_isName 27 = .ok (.iload_n 1, 1) := by decide +kernel
theorem dX9_isName_28 : decode cX9_isName 28 = .ok (.bipush 111, 2) := by decide +kernel
theorem dX9_isName_30 : decode cX9_isName 30 = .ok (.if_icmp .eq 9, 3) := by decide +kernel
theorem dX9_isName_33 : decode cX9_isName 33 = .ok (.iload_n 1, 1) := by decide +kernel
theorem dX9_isName_34 : decode cX9_isName 34 = .ok (.bipush 110, 2) := by decide +kernel
theorem dX9_isName_36 : decode cX9_isName 36 = .ok (.if_icmp .ne 7, 3) := by decide +kernel
theorem dX9_isName_39 : decode cX9_isName 39 = .ok (.iconst 1, 1) := by decide +kernel
theorem dX9_isName_40 : decode cX9_isName 40 = .ok (.goto 24, 3) := by decide +kernel
theorem dX9_isName_43 : decode cX9_isName 43 = .ok (.iconst 0, 1) := by decide +kernel
theorem dX9_isName_44 : decode cX9_isName 44 = .ok (.goto 20, 3) := by decide +kernel
theorem dX9_isName_47 : decode cX9_isName 47 = .ok (.iload_n 1, 1) := by decide +kernel
theorem dX9_isName_48 : decode cX9_isName 48 = .ok (.bipush 100, 2) := by decide +kernel
theorem dX9_isName_50 : decode cX9_isName 50 = .ok (.if_icmp .eq 9, 3) := by decide +kernel
theorem dX9_isName_53 : decode cX9_isName 53 = .ok (.iload_n 1, 1) := by decide +kernel
theorem dX9_isName_54 : decode cX9_isName 54 = .ok (.bipush 107, 2) := by decide +kernel
theorem dX9_isName_56 : decode cX9_isName 56 = .ok (.if_icmp .ne 7, 3) := by decide +kernel
theorem dX9_isName_59 : decode cX9_isName 59 = .ok (.iconst 1, 1) := by decide +kernel
theorem dX9_isName_60 : decode cX9_isName 60 = .ok (.goto 4, 3) := by decide +kernel
theorem dX9_isName_63 : decode cX9_isName 63 = .ok (.iconst 0, 1) := by decide +kernel
theorem dX9_isName_64 : decode cX9_isName 64 = .ok (.ireturn, 1) := by decide +kernel
theorem dX9_step1_0 : decode cX9_step1 0 = .ok (.aload_n 0, 1) := by decide +kernel
theorem dX9_step1_1 : decode cX9_step1 1 = .ok (.getfield 26, 3) := by decide +kernel
theorem dX9_step1_4 : decode cX9_step1 4 = .ok (.iconst 2, 1) := by decide +kernel
theorem dX9_step1_5 : decode cX9_step1 5 = .ok (.aload_n 0, 1) := by decide +kernel
theorem dX9_step1_6 : decode cX9_step1 6 = .ok (.getfield 73, 3) := by decide +kernel
theorem dX9_step1_9 : decode cX9_step1 9 = .ok (.imul, 1) := by decide +kernel
theorem dX9_step1_10 : decode cX9_step1 10 = .ok (.iload_n 1, 1) := by decide +kernel
theorem dX9_step1_11 : decode cX9_step1 11 = .ok (.iastore, 1) := by decide +kernel
theorem dX9_step1_12 : decode cX9_step1 12 = .ok (.aload_n 0, 1) := by decide +kernel
theorem dX9_step1_13 : decode cX9_step1 13 = .ok (.getfield 26, 3) := by decide +kernel
theorem dX9_step1_16 : decode cX9_step1 16 = .ok (.iconst 2, 1) := by decide +kernel
theorem dX9_step1_17 : decode cX9_step1 17 = .ok (.aload_n 0, 1) := by decide +kernel
theorem dX9_step1_18 : decode cX9_step1 18 = .ok (.getfield 73, 3) := by decide +kernel
theorem dX9_step1_21 : decode cX9_step1 21 = .ok (.imul, 1) := by decide +kernel
theorem dX9_step1_22 : decode cX9_step1 22 = .ok (.iconst 1, 1) := by decide +kernel
theorem dX9_step1_23 : decode cX9_step1 23 = .ok (.iadd, 1) := by decide +kernel
theorem dX9_step1_24 : decode cX9_step1 24 = .ok (.iload_n 2, 1) := by decide +kernel
theorem dX9_step1_25 : decode cX9_step1 25 = .ok (.iastore, 1) := by decide +kernel
theorem dX9_step1_26 : decode cX9_step1 26 = .ok (.aload_n 0, 1) := by decide +kernel
theorem dX9_step1_27 : decode cX9_step1 27 = .ok (.dup, 1) := by decide +kernel
theorem dX9_step1_28 : decode cX9_step1 28 = .ok (.getfield 73, 3) := by decide +kernel
theorem dX9_step1_31 : decode cX9_step1 31 = .ok (.iconst 1, 1) := by decide +kernel
theorem dX9_step1_32 : decode cX9_step1 32 = .ok (.iadd, 1) := by decide +kernel
theorem dX9_step1_33 : decode cX9_step1 33 = .ok (.putfield 73, 3) := by decide +kernel
theorem dX9_step1_36 : decode cX9_step1 36 = .ok (.return_, 1) := by decide +kernel
theorem dX9_whole_0 : decode cX9_whole 0 = .ok (.aload_n 0, 1) := by decide +kernel
theorem dX9_whole_1 : decode cX9_whole 1 = .ok (.invokevirtual 76, 3) := by decide +kernel
theorem dX9_whole_4 : decode cX9_whole 4 = .ok (.ifCond .ne 5, 3) := by decide +kernel
theorem dX9_whole_7 : decode cX9_whole 7 = .ok (.iconst 0, 1) := by decide +kernel
theorem dX9_whole_8 : decode cX9_whole 8 = .ok (.ireturn, 1) := by decide +kernel
theorem dX9_whole_9 : decode cX9_whole 9 = .ok (.aload_n 0, 1) := by decide +kernel
theorem dX9_whole_10 : decode cX9_whole 10 = .ok (.invokevirtual 80, 3) := by decide +kernel
theorem dX9_whole_13 : decode cX9_whole 13 = .ok (.bipush 124, 2) := by decide +kernel
theorem dX9_whole_15 : decode cX9_whole 15 = .ok (.if_icmp .ne 32, 3) := by decide +kernel
theorem dX9_whole_18 : decode cX9_whole 18 = .ok (.aload_n 0, 1) := by decide +kernel
theorem dX9_whole_19 : decode cX9_whole 19 = .ok (.dup, 1) := by decide +kernel
theorem dX9_whole_20 : decode cX9_whole 20 = .ok (.getfield 67, 3) := by decide +kernel
theorem dX9_whole_23 : decode cX9_whole 23 = .ok (.iconst 1, 1) := by decide +kernel
theorem dX9_whole_24 : decode cX9_whole 24 = .ok (.iadd, 1) := by decide +kernel
theorem dX9_whole_25 : decode cX9_whole 25 = .ok (.putfield 67, 3) := by decide +kernel
theorem dX9_whole_28 : decode cX9_whole 28 = .ok (.aload_n 0, 1) := by decide +kernel
theorem dX9_whole_29 : decode cX9_whole 29 = .ok (.invokevirtual 76, 3) := by decide +kernel
theorem dX9_whole_32 : decode cX9_whole 32 = .ok (.ifCond .ne 5, 3) := by decide +kernel
theorem dX9_whole_35 : decode cX9_whole 35 = .ok (.iconst 0, 1) := by decide +kernel
theorem dX9_whole_36 : decode cX9_whole 36 = .ok (.ireturn, 1) := by decide +kernel
theorem dX9_whole_37 : decode cX9_whole 37 = .ok (.aload_n 0, 1) := by decide +kernel
theorem dX9_whole_38 : decode cX9_whole 38 = .ok (.iconst 3, 1) := by decide +kernel
theorem dX9_whole_39 : decode cX9_whole 39 = .ok (.bipush 124, 2) := by decide +kernel
theorem dX9_whole_41 : decode cX9_whole 41 = .ok (.invokevirtual 84, 3) := by decide +kernel
theorem dX9_whole_44 : decode cX9_whole 44 = .ok (.goto (-35), 3) := by decide +kernel
theorem dX9_whole_47 : decode cX9_whole 47 = .ok (.iconst 1, 1) := by decide +kernel
theorem dX9_whole_48 : decode cX9_whole 48 = .ok (.ireturn, 1) := by decide +kernel
theorem dX9_both_0 : decode cX9_both 0 = .ok (.aload_n 0, 1) := by decide +kernel
theorem dX9_both_1 : decode cX9_both 1 = .ok (.invokevirtual 88, 3) := by decide +kernel
theorem dX9_both_4 : decode cX9_both 4 = .ok (.ifCond .ne 5, 3) := by decide +kernel
theorem dX9_both_7 : decode cX9_both 7 = .ok (.iconst 0, 1) := by decide +kernel
theorem dX9_both_8 : decode cX9_both 8 = .ok (.ireturn, 1) := by decide +kernel
theorem dX9_both_9 : decode cX9_both 9 = .ok (.aload_n 0, 1) := by decide +kernel
theorem dX9_both_10 : decode cX9_both 10 = .ok (.invokevirtual 80, 3) := by decide +kernel
theorem dX9_both_13 : decode cX9_both 13 = .ok (.bipush 38, 2) := by decide +kernel
theorem dX9_both_15 : decode cX9_both 15 = .ok (.if_icmp .ne 32, 3) := by decide +kernel
theorem dX9_both_18 : decode cX9_both 18 = .ok (.aload_n 0, 1) := by decide +kernel
theorem dX9_both_19 : decode cX9_both 19 = .ok (.dup, 1) := by decide +kernel
theorem dX9_both_20 : decode cX9_both 20 = .ok (.getfield 67, 3) := by decide +kernel
theorem dX9_both_23 : decode cX9_both 23 = .ok (.iconst 1, 1) := by decide +kernel
theorem dX9_both_24 : decode cX9_both 24 = .ok (.iadd, 1) := by decide +kernel
theorem dX9_both_25 : decode cX9_both 25 = .ok (.putfield 67, 3) := by decide +kernel
theorem dX9_both_28 : decode cX9_both 28 = .ok (.aload_n 0, 1) := by decide +kernel
theorem dX9_both_29 : decode cX9_both 29 = .ok (.invokevirtual 88, 3) := by decide +kernel
theorem dX9_both_32 : decode cX9_both 32 = .ok (.ifCond .ne 5, 3) := by decide +kernel
theorem dX9_both_35 : decode cX9_both 35 = .ok (.iconst 0, 1) := by decide +kernel
theorem dX9_both_36 : decode cX9_both 36 = .ok (.ireturn, 1) := by decide +kernel
theorem dX9_both_37 : decode cX9_both 37 = .ok (.aload_n 0, 1) := by decide +kernel
theorem dX9_both_38 : decode cX9_both 38 = .ok (.iconst 3, 1) := by decide +kernel
theorem dX9_both_39 : decode cX9_both 39 = .ok (.bipush 38, 2) := by decide +kernel
theorem dX9_both_41 : decode cX9_both 41 = .ok (.invokevirtual 84, 3) := by decide +kernel
theorem dX9_both_44 : decode cX9_both 44 = .ok (.goto (-35), 3) := by decide +kernel
theorem dX9_both_47 : decode cX9_both 47 = .ok (.iconst 1, 1) := by decide +kernel
theorem dX9_both_48 : decode cX9_both 48 = .ok (.ireturn, 1) := by decide +kernel
theorem dX9_compared_0 : decode cX9_compared 0 = .ok (.aload_n 0, 1) := by decide +kernel
theorem dX9_compared_1 : decode cX9_compared 1 = .ok (.invokevirtual 91, 3) := by decide +kernel
theorem dX9_compared_4 : decode cX9_compared 4 = .ok (.ifCond .ne 5, 3) := by decide +kernel
theorem dX9_compared_7 : decode cX9_compared 7 = .ok (.iconst 0, 1) := by decide +kernel
theorem dX9_compared_8 : decode cX9_compared 8 = .ok (.ireturn, 1) := by decide +kernel
theorem dX9_compared_9 : decode cX9_compared 9 = .ok (.aload_n 0, 1) := by decide +kernel
theorem dX9_compared_10 : decode cX9_compared 10 = .ok (.invokevirtual 80, 3) := by decide +kernel
theorem dX9_compared_13 : decode cX9_compared 13 = .ok (.istore_n 1, 1) := by decide +kernel
theorem dX9_compared_14 : decode cX9_compared 14 = .ok (.iload_n 1, 1) := by decide +kernel
theorem dX9_compared_15 : decode cX9_compared 15 = .ok (.bipush 60, 2) := by decide +kernel
theorem dX9_compared_17 : decode cX9_compared 17 = .ok (.if_icmp .eq 17, 3) := by decide +kernel
theorem dX9_compared_20 : decode cX9_compared 20 = .ok (.iload_n 1, 1) := by decide +kernel
theorem dX9_compared_21 : decode cX9_compared 21 = .ok (.bipush 61, 2) := by decide +kernel
theorem dX9_compared_23 : decode cX9_compared 23 = .ok (.if_icmp .eq 11, 3) := by decide +kernel
theorem dX9_compared_26 : decode cX9_compared 26 = .ok (.iload_n 1, 1) := by decide +kernel
theorem dX9_compared_27 : decode cX9_compared 27 = .ok (.bipush 62, 2) := by decide +kernel
theorem dX9_compared_29 : decode cX9_compared 29 = .ok (.if_icmp .eq 5, 3) := by decide +kernel
theorem dX9_compared_32 : decode cX9_compared 32 = .ok (.iconst 1, 1) := by decide +kernel
theorem dX9_compared_33 : decode cX9_compared 33 = .ok (.ireturn, 1) := by decide +kernel
theorem dX9_compared_34 : decode cX9_compared 34 = .ok (.aload_n 0, 1) := by decide +kernel
theorem dX9_compared_35 : decode cX9_compared 35 = .ok (.dup, 1) := by decide +kernel
theorem dX9_compared_36 : decode cX9_compared 36 = .ok (.getfield 67, 3) := by decide +kernel
theorem dX9_compared_39 : decode cX9_compared 39 = .ok (.iconst 1, 1) := by decide +kernel
theorem dX9_compared_40 : decode cX9_compared 40 = .ok (.iadd, 1) := by decide +kernel
theorem dX9_compared_41 : decode cX9_compared 41 = .ok (.putfield 67, 3) := by decide +kernel
theorem dX9_compared_44 : decode cX9_compared 44 = .ok (.aload_n 0, 1) := by decide +kernel
theorem dX9_compared_45 : decode cX9_compared 45 = .ok (.invokevirtual 91, 3) := by decide +kernel
theorem dX9_compared_48 : decode cX9_compared 48 = .ok (.ifCond .ne 5, 3) := by decide +kernel
theorem dX9_compared_51 : decode cX9_compared 51 = .ok (.iconst 0, 1) := by decide +kernel
theorem dX9_compared_52 : decode cX9_compared 52 = .ok (.ireturn, 1) := by decide +kernel
theorem dX9_compared_53 : decode cX9_compared 53 = .ok (.aload_n 0, 1) := by decide +kernel
theorem dX9_compared_54 : decode cX9_compared 54 = .ok (.iconst 3, 1) := by decide +kernel
theorem dX9_compared_55 : decode cX9_compared 55 = .ok (.iload_n 1, 1) := by decide +kernel
theorem dX9_compared_56 : decode cX9_compared 56 = .ok (.invokevirtual 84, 3) := by decide +kernel
theorem dX9_compared_59 : decode cX9_compared 59 = .ok (.iconst 1, 1) := by decide +kernel
theorem dX9_compared_60 : decode cX9_compared 60 = .ok (.ireturn, 1) := by decide +kernel
theorem dX9_sum_0 : decode cX9_sum 0 = .ok (.aload_n 0, 1) := by decide +kernel
theorem dX9_sum_1 : decode cX9_sum 1 = .ok (.invokevirtual 94, 3) := by decide +kernel
theorem dX9_sum_4 : decode cX9_sum 4 = .ok (.ifCond .ne 5, 3) := by decide +kernel
theorem dX9_sum_7 : decode cX9_sum 7 = .ok (.iconst 0, 1) := by decide +kernel
theorem dX9_sum_8 : decode cX9_sum 8 = .ok (.ireturn, 1) := by decide +kernel
theorem dX9_sum_9 : decode cX9_sum 9 = .ok (.aload_n 0, 1) := by decide +kernel
theorem dX9_sum_10 : decode cX9_sum 10 = .ok (.invokevirtual 80, 3) := by decide +kernel
theorem dX9_sum_13 : decode cX9_sum 13 = .ok (.bipush 43, 2) := by decide +kernel
theorem dX9_sum_15 : decode cX9_sum 15 = .ok (.if_icmp .eq 12, 3) := by decide +kernel
theorem dX9_sum_18 : decode cX9_sum 18 = .ok (.aload_n 0, 1) := by decide +kernel
theorem dX9_sum_19 : decode cX9_sum 19 = .ok (.invokevirtual 80, 3) := by decide +kernel
theorem dX9_sum_22 : decode cX9_sum 22 = .ok (.bipush 45, 2) := by decide +kernel
theorem dX9_sum_24 : decode cX9_sum 24 = .ok (.if_icmp .ne 36, 3) := by decide +kernel
theorem dX9_sum_27 : decode cX9_sum 27 = .ok (.aload_n 0, 1) := by decide +kernel
theorem dX9_sum_28 : decode cX9_sum 28 = .ok (.invokevirtual 80, 3) := by decide +kernel
theorem dX9_sum_31 : decode cX9_sum 31 = .ok (.istore_n 1, 1) := by decide +kernel
theorem dX9_sum_32 : decode cX9_sum 32 = .ok (.aload_n 0, 1) := by decide +kernel
theorem dX9_sum_33 : decode cX9_sum 33 = .ok (.dup, 1) := by decide +kernel
theorem dX9_sum_34 : decode cX9_sum 34 = .ok (.getfield 67, 3) := by decide +kernel
theorem dX9_sum_37 : decode cX9_sum 37 = .ok (.iconst 1, 1) := by decide +kernel
theorem dX9_sum_38 : decode cX9_sum 38 = .ok (.iadd, 1) := by decide +kernel
theorem dX9_sum_39 : decode cX9_sum 39 = .ok (.putfield 67, 3) := by decide +kernel
theorem dX9_sum_42 : decode cX9_sum 42 = .ok (.aload_n 0, 1) := by decide +kernel
theorem dX9_sum_43 : decode cX9_sum 43 = .ok (.invokevirtual 94, 3) := by decide +kernel
theorem dX9_sum_46 : decode cX9_sum 46 = .ok (.ifCond .ne 5, 3) := by decide +kernel
theorem dX9_sum_49 : decode cX9_sum 49 = .ok (.iconst 0, 1) := by decide +kernel
theorem dX9_sum_50 : decode cX9_sum 50 = .ok (.ireturn, 1) := by decide +kernel
theorem dX9_sum_51 : decode cX9_sum 51 = .ok (.aload_n 0, 1) := by decide +kernel
theorem dX9_sum_52 : decode cX9_sum 52 = .ok (.iconst 3, 1) := by decide +kernel
theorem dX9_sum_53 : decode cX9_sum 53 = .ok (.iload_n 1, 1) := by decide +kernel
theorem dX9_sum_54 : decode cX9_sum 54 = .ok (.invokevirtual 84, 3) := by decide +kernel
theorem dX9_sum_57 : decode cX9_sum 57 = .ok (.goto (-48), 3) := by decide +kernel
theorem dX9_sum_60 : decode cX9_sum 60 = .ok (.iconst 1, 1) := by decide +kernel
theorem dX9_sum_61 : decode cX9_sum 61 = .ok (.ireturn, 1) := by decide +kernel
theorem dX9_product_0 : decode cX9_product 0 = .ok (.aload_n 0, 1) := by decide +kernel
theorem dX9_product_1 : decode cX9_product 1 = .ok (.invokevirtual 97, 3) := by decide +kernel
theorem dX9_product_4 : decode cX9_product 4 = .ok (.ifCond .ne 5, 3) := by decide +kernel
theorem dX9_product_7 : decode cX9_product 7 = .ok (.iconst 0, 1) := by decide +kernel
theorem dX9_product_8 : decode cX9_product 8 = .ok (.ireturn, 1) := by decide +kernel
theorem dX9_product_9 : decode cX9_product 9 = .ok (.aload_n 0, 1) := by decide +kernel
theorem dX9_product_10 : decode cX9_product 10 = .ok (.invokevirtual 80, 3) := by decide +kernel
theorem dX9_product_13 : decode cX9_product 13 = .ok (.bipush 42, 2) := by decide +kernel
theorem dX9_product_15 : decode cX9_product 15 = .ok (.if_icmp .eq 21, 3) := by decide +kernel
theorem dX9_product_18 : decode cX9_product 18 = .ok (.aload_n 0, 1) := by decide +kernel
theorem dX9_product_19 : decode cX9_product 19 = .ok (.invokevirtual 80, 3) := by decide +kernel
theorem dX9_product_22 : decode cX9_product 22 = .ok (.bipush 47, 2) := by decide +kernel
theorem dX9_product_24 : decode cX9_product 24 = .ok (.if_icmp .eq 12, 3) := by decide +kernel
theorem dX9_product_27 : decode cX9_product 27 = .ok (.aload_n 0, 1) := by decide +kernel
theorem dX9_product_28 : decode cX9_product 28 = .ok (.invokevirtual 80, 3) := by decide +kernel
theorem dX9_product_31 : decode cX9_product 31 = .ok (.bipush 37, 2) := by decide +kernel
theorem dX9_product_33 : decode cX9_product 33 = .ok (.if_icmp .ne 36, 3) := by decide +kernel
theorem dX9_product_36 : decode cX9_product 36 = .ok (.aload_n 0, 1) := by decide +kernel
theorem dX9_product_37 : decode cX9_product 37 = .ok (.invokevirtual 80, 3) := by decide +kernel
theorem dX9_product_40 : decode cX9_product 40 = .ok (.istore_n 1, 1) := by decide +kernel
theorem dX9_product_41 : decode cX9_product 41 = .ok (.aload_n 0, 1) := by decide +kernel
theorem dX9_product_42 : decode cX9_product 42 = .ok (.dup, 1) := by decide +kernel
theorem dX9_product_43 : decode cX9_product 43 = .ok (.getfield 67, 3) := by decide +kernel
theorem dX9_product_46 : decode cX9_product 46 = .ok (.iconst 1, 1) := by decide +kernel
theorem dX9_product_47 : decode cX9_product 47 = .ok (.iadd, 1) := by decide +kernel
theorem dX9_product_48 : decode cX9_product 48 = .ok (.putfield 67, 3) := by decide +kernel
theorem dX9_product_51 : decode cX9_product 51 = .ok (.aload_n 0, 1) := by decide +kernel
theorem dX9_product_52 : decode cX9_product 52 = .ok (.invokevirtual 97, 3) := by decide +kernel
theorem dX9_product_55 : decode cX9_product 55 = .ok (.ifCond .ne 5, 3) := by decide +kernel
theorem dX9_product_58 : decode cX9_product 58 = .ok (.iconst 0, 1) := by decide +kernel
theorem dX9_product_59 : decode cX9_product 59 = .ok (.ireturn, 1) := by decide +kernel
theorem dX9_product_60 : decode cX9_product 60 = .ok (.aload_n 0, 1) := by decide +kernel
theorem dX9_product_61 : decode cX9_product 61 = .ok (.iconst 3, 1) := by decide +kernel
theorem dX9_product_62 : decode cX9_product 62 = .ok (.iload_n 1, 1) := by decide +kernel
theorem dX9_product_63 : decode cX9_product 63 = .ok (.invokevirtual 84, 3) := by decide +kernel
theorem dX9_product_66 : decode cX9_product 66 = .ok (.goto (-57), 3) := by decide +kernel
theorem dX9_product_69 : decode cX9_product 69 = .ok (.iconst 1, 1) := by decide +kernel
theorem dX9_product_70 : decode cX9_product 70 = .ok (.ireturn, 1) := by decide +kernel
theorem dX9_opens_0 : decode cX9_opens 0 = .ok (.aload_n 0, 1) := by decide +kernel
theorem dX9_opens_1 : decode cX9_opens 1 = .ok (.getfield 100, 3) := by decide +kernel
theorem dX9_opens_4 : decode cX9_opens 4 = .ok (.iconst 5, 1) := by decide +kernel
theorem dX9_opens_5 : decode cX9_opens 5 = .ok (.if_icmp .ne 5, 3) := by decide +kernel
theorem dX9_opens_8 : decode cX9_opens 8 = .ok (.iconst 0, 1) := by decide +kernel
theorem dX9_opens_9 : decode cX9_opens 9 = .ok (.ireturn, 1) := by decide +kernel
theorem dX9_opens_10 : decode cX9_opens 10 = .ok (.aload_n 0, 1) := by decide +kernel
theorem dX9_opens_11 : decode cX9_opens 11 = .ok (.dup, 1) := by decide +kernel
theorem dX9_opens_12 : decode cX9_opens 12 = .ok (.getfield 100, 3) := by decide +kernel
theorem dX9_opens_15 : decode cX9_opens 15 = .ok (.iconst 1, 1) := by decide +kernel
theorem dX9_opens_16 : decode cX9_opens 16 = .ok (.iadd, 1) := by decide +kernel
theorem dX9_opens_17 : decode cX9_opens 17 = .ok (.putfield 100, 3) := by decide +kernel
theorem dX9_opens_20 : decode cX9_opens 20 = .ok (.aload_n 0, 1) := by decide +kernel
theorem dX9_opens_21 : decode cX9_opens 21 = .ok (.dup, 1) := by decide +kernel
theorem dX9_opens_22 : decode cX9_opens 22 = .ok (.getfield 67, 3) := by decide +kernel
theorem dX9_opens_25 : decode cX9_opens 25 = .ok (.iconst 1, 1) := by decide +kernel
theorem dX9_opens_26 : decode cX9_opens 26 = .ok (.iadd, 1) := by decide +kernel
theorem dX9_opens_27 : decode cX9_opens 27 = .ok (.putfield 67, 3) := by decide +kernel
theorem dX9_opens_30 : decode cX9_opens 30 = .ok (.iconst 1, 1) := by decide +kernel
theorem dX9_opens_31 : decode cX9_opens 31 = .ok (.ireturn, 1) := by decide +kernel
theorem dX9_one_0 : decode cX9_one 0 = .ok (.aload_n 0, 1) := by decide +kernel
theorem dX9_one_1 : decode cX9_one 1 = .ok (.invokevirtual 80, 3) := by decide +kernel
theorem dX9_one_4 : decode cX9_one 4 = .ok (.istore_n 1, 1) := by decide +kernel
theorem dX9_one_5 : decode cX9_one 5 = .ok (.aload_n 0, 1) := by decide +kernel
theorem dX9_one_6 : decode cX9_one 6 = .ok (.iload_n 1, 1) := by decide +kernel
theorem dX9_one_7 : decode cX9_one 7 = .ok (.invokevirtual 103, 3) := by decide +kernel
theorem dX9_one_10 : decode cX9_one 10 = .ok (.ifCond .eq 21, 3) := by decide +kernel
theorem dX9_one_13 : decode cX9_one 13 = .ok (.aload_n 0, 1) := by decide +kernel
theorem dX9_one_14 : decode cX9_one 14 = .ok (.dup, 1) := by decide +kernel
theorem dX9_one_15 : decode cX9_one 15 = .ok (.getfield 67, 3) := by decide +kernel
theorem dX9_one_18 : decode cX9_one 18 = .ok (.iconst 1, 1) := by decide +kernel
theorem dX9_one_19 : decode cX9_one 19 = .ok (.iadd, 1) := by decide +kernel
theorem dX9_one_20 : decode cX9_one 20 = .ok (.putfield 67, 3) := by decide +kernel
theorem dX9_one_23 : decode cX9_one 23 = .ok (.aload_n 0, 1) := by decide +kernel
theorem dX9_one_24 : decode cX9_one 24 = .ok (.iconst 1, 1) := by decide +kernel
theorem dX9_one_25 : decode cX9_one 25 = .ok (.iload_n 1, 1) := by decide +kernel
theorem dX9_one_26 : decode cX9_one 26 = .ok (.invokevirtual 84, 3) := by decide +kernel
theorem dX9_one_29 : decode cX9_one 29 = .ok (.iconst 1, 1) := by decide +kernel
theorem dX9_one_30 : decode cX9_one 30 = .ok (.ireturn, 1) := by decide +kernel
theorem dX9_one_31 : decode cX9_one 31 = .ok (.iload_n 1, 1) := by decide +kernel
theorem dX9_one_32 : decode cX9_one 32 = .ok (.bipush 48, 2) := by decide +kernel
theorem dX9_one_34 : decode cX9_one 34 = .ok (.bipush 57, 2) := by decide +kernel
theorem dX9_one_36 : decode cX9_one 36 = .ok (.invokestatic 57, 3) := by decide +kernel
theorem dX9_one_39 : decode cX9_one 39 = .ok (.ifCond .eq 63, 3) := by decide +kernel
theorem dX9_one_42 : decode cX9_one 42 = .ok (.iconst 0, 1) := by decide +kernel
theorem dX9_one_43 : decode cX9_one 43 = .ok (.istore_n 2, 1) := by decide +kernel
theorem dX9_one_44 : decode cX9_one 44 = .ok (.iconst 0, 1) := by decide +kernel
theorem dX9_one_45 : decode cX9_one 45 = .ok (.istore_n 3, 1) := by decide +kernel
theorem dX9_one_46 : decode cX9_one 46 = .ok (.iload_n 3, 1) := by decide +kernel
theorem dX9_one_47 : decode cX9_one 47 = .ok (.iconst 4, 1) := by decide +kernel
theorem dX9_one_48 : decode cX9_one 48 = .ok (.if_icmp .ge 46, 3) := by decide +kernel
theorem dX9_one_51 : decode cX9_one 51 = .ok (.aload_n 0, 1) := by decide +kernel
theorem dX9_one_52 : decode cX9_one 52 = .ok (.invokevirtual 80, 3) := by decide +kernel
theorem dX9_one_55 : decode cX9_one 55 = .ok (.bipush 48, 2) := by decide +kernel
theorem dX9_one_57 : decode cX9_one 57 = .ok (.bipush 57, 2) := by decide +kernel
theorem dX9_one_59 : decode cX9_one 59 = .ok (.invokestatic 57, 3) := by decide +kernel
theorem dX9_one_62 : decode cX9_one 62 = .ok (.ifCond .eq 32, 3) := by decide +kernel
theorem dX9_one_65 : decode cX9_one 65 = .ok (.bipush 10, 2) := by decide +kernel
theorem dX9_one_67 : decode cX9_one 67 = .ok (.iload_n 2, 1) := by decide +kernel
theorem dX9_one_68 : decode cX9_one 68 = .ok (.imul, 1) := by decide +kernel
theorem dX9_one_69 : decode cX9_one 69 = .ok (.aload_n 0, 1) := by decide +kernel
theorem dX9_one_70 : decode cX9_one 70 = .ok (.invokevirtual 80, 3) := by decide +kernel
theorem dX9_one_73 : decode cX9_one 73 = .ok (.iadd, 1) := by decide +kernel
theorem dX9_one_74 : decode cX9_one 74 = .ok (.bipush 48, 2) := by decide +kernel
theorem dX9_one_76 : decode cX9_one 76 = .ok (.isub, 1) := by decide +kernel
theorem dX9_one_77 : decode cX9_one 77 = .ok (.istore_n 2, 1) := by decide +kernel
theorem dX9_one_78 : decode cX9_one 78 = .ok (.aload_n 0, 1) := by decide +kernel
theorem dX9_one_79 : decode cX9_one 79 = .ok (.dup, 1) := by decide +kernel
theorem dX9_one_80 : decode cX9_one 80 = .ok (.getfield 67, 3) := by decide +kernel
theorem dX9_one_83 : decode cX9_one 83 = .ok (.iconst 1, 1) := by decide +kernel
theorem dX9_one_84 : decode cX9_one 84 = .ok (.iadd, 1) := by decide +kernel
theorem dX9_one_85 : decode cX9_one 85 = .ok (.putfield 67, 3) := by decide +kernel
theorem dX9_one_88 : decode cX9_one 88 = .ok (.iinc 3 1, 3) := by decide +kernel
theorem dX9_one_91 : decode cX9_one 91 = .ok (.goto (-45), 3) := by decide +kernel
theorem dX9_one_94 : decode cX9_one 94 = .ok (.aload_n 0, 1) := by decide +kernel
theorem dX9_one_95 : decode cX9_one 95 = .ok (.iconst 0, 1) := by decide +kernel
theorem dX9_one_96 : decode cX9_one 96 = .ok (.iload_n 2, 1) := by decide +kernel
theorem dX9_one_97 : decode cX9_one 97 = .ok (.invokevirtual 84, 3) := by decide +kernel
theorem dX9_one_100 : decode cX9_one 100 = .ok (.iconst 1, 1) := by decide +kernel
theorem dX9_one_101 : decode cX9_one 101 = .ok (.ireturn, 1) := by decide +kernel
theorem dX9_one_102 : decode cX9_one 102 = .ok (.iload_n 1, 1) := by decide +kernel
theorem dX9_one_103 : decode cX9_one 103 = .ok (.bipush 33, 2) := by decide +kernel
theorem dX9_one_105 : decode cX9_one 105 = .ok (.if_icmp .ne 37, 3) := by decide +kernel
theorem dX9_one_108 : decode cX9_one 108 = .ok (.aload_n 0, 1) := by decide +kernel
theorem dX9_one_109 : decode cX9_one 109 = .ok (.invokevirtual 107, 3) := by decide +kernel
theorem dX9_one_112 : decode cX9_one 112 = .ok (.ifCond .eq 10, 3) := by decide +kernel
theorem dX9_one_115 : decode cX9_one 115 = .ok (.aload_n 0, 1) := by decide +kernel
theorem dX9_one_116 : decode cX9_one 116 = .ok (.invokevirtual 97, 3) := by decide +kernel
theorem dX9_one_119 : decode cX9_one 119 = .ok (.ifCond .ne 5, 3) := by decide +kernel
theorem dX9_one_122 : decode cX9_one 122 = .ok (.iconst 0, 1) := by decide +kernel
theorem dX9_one_123 : decode cX9_one 123 = .ok (.ireturn, 1) := by decide +kernel
theorem dX9_one_124 : decode cX9_one 124 = .ok (.aload_n 0, 1) := by decide +kernel
theorem dX9_one_125 : decode cX9_one 125 = .ok (.dup, 1) := by decide +kernel
theorem dX9_one_126 : decode cX9_one 126 = .ok (.getfield 100, 3) := by decide +kernel
theorem dX9_one_129 : decode cX9_one 129 = .ok (.iconst 1, 1) := by decide +kernel
theorem dX9_one_130 : decode cX9_one 130 = .ok (.isub, 1) := by decide +kernel
theorem dX9_one_131 : decode cX9_one 131 = .ok (.putfield 100, 3) := by decide +kernel
theorem dX9_one_134 : decode cX9_one 134 = .ok (.aload_n 0, 1) := by decide +kernel
theorem dX9_one_135 : decode cX9_one 135 = .ok (.iconst 2, 1) := by decide +kernel
theorem dX9_one_136 : decode cX9_one 136 = .ok (.iconst 0, 1) := by decide +kernel
theorem dX9_one_137 : decode cX9_one 137 = .ok (.invokevirtual 84, 3) := by decide +kernel
theorem dX9_one_140 : decode cX9_one 140 = .ok (.iconst 1, 1) := by decide +kernel
theorem dX9_one_141 : decode cX9_one 141 = .ok (.ireturn, 1) := by decide +kernel
theorem dX9_one_142 : decode cX9_one 142 = .ok (.iload_n 1, 1) := by decide +kernel
theorem dX9_one_143 : decode cX9_one 143 = .ok (.bipush 40, 2) := by decide +kernel
theorem dX9_one_145 : decode cX9_one 145 = .ok (.if_icmp .ne 26, 3) := by decide +kernel
theorem dX9_one_148 : decode cX9_one 148 = .ok (.aload_n 0, 1) := by decide +kernel
theorem dX9_one_149 : decode cX9_one 149 = .ok (.invokevirtual 107, 3) := by decide +kernel
theorem dX9_one_152 : decode cX9_one 152 = .ok (.ifCond .eq 19, 3) := by decide +kernel
theorem dX9_one_155 : decode cX9_one 155 = .ok (.aload_n 0, 1) := by decide +kernel
theorem dX9_one_156 : decode cX9_one 156 = .ok (.invokevirtual 110, 3) := by decide +kernel
theorem dX9_one_159 : decode cX9_one 159 = .ok (.ifCond .eq 12, 3) := by decide +kernel
theorem dX9_one_162 : decode cX9_one 162 = .ok (.aload_n 0, 1) := by decide +kernel
theorem dX9_one_163 : decode cX9_one 163 = .ok (.invokevirtual 80, 3) := by decide +kernel
theorem dX9_one_166 : decode cX9_one 166 = .ok (.bipush 41, 2) := by decide +kernel
theorem dX9_one_168 : decode cX9_one 168 = .ok (.if_icmp .eq 5, 3) := by decide +kernel
theorem dX9_one_171 : decode cX9_one 171 = .ok (.iconst 0, 1) := by decide +kernel
theorem dX9_one_172 : decode cX9_one 172 = .ok (.ireturn, 1) := by decide +kernel
theorem dX9_one_173 : decode cX9_one 173 = .ok (.aload_n 0, 1) := by decide +kernel
theorem dX9_one_174 : decode cX9_one 174 = .ok (.dup, 1) := by decide +kernel
theorem dX9_one_175 : decode cX9_one 175 = .ok (.getfield 67, 3) := by decide +kernel
theorem dX9_one_178 : decode cX9_one 178 = .ok (.iconst 1, 1) := by decide +kernel
theorem dX9_one_179 : decode cX9_one 179 = .ok (.iadd, 1) := by decide +kernel
theorem dX9_one_180 : decode cX9_one 180 = .ok (.putfield 67, 3) := by decide +kernel
theorem dX9_one_183 : decode cX9_one 183 = .ok (.aload_n 0, 1) := by decide +kernel
theorem dX9_one_184 : decode cX9_one 184 = .ok (.dup, 1) := by decide +kernel
theorem dX9_one_185 : decode cX9_one 185 = .ok (.getfield 100, 3) := by decide +kernel
theorem dX9_one_188 : decode cX9_one 188 = .ok (.iconst 1, 1) := by decide +kernel
theorem dX9_one_189 : decode cX9_one 189 = .ok (.isub, 1) := by decide +kernel
theorem dX9_one_190 : decode cX9_one 190 = .ok (.putfield 100, 3) := by decide +kernel
theorem dX9_one_193 : decode cX9_one 193 = .ok (.iconst 1, 1) := by decide +kernel
theorem dX9_one_194 : decode cX9_one 194 = .ok (.ireturn, 1) := by decide +kernel
theorem dX9_hasText_0 : decode cX9_hasText 0 = .ok (.aload_n 0, 1) := by decide +kernel
theorem dX9_hasText_1 : decode cX9_hasText 1 = .ok (.getfield 7, 3) := by decide +kernel
theorem dX9_hasText_4 : decode cX9_hasText 4 = .ok (.bipush 53, 2) := by decide +kernel
theorem dX9_hasText_6 : decode cX9_hasText 6 = .ok (.bipush 125, 2) := by decide +kernel
theorem dX9_hasText_8 : decode cX9_hasText 8 = .ok (.iload_n 1, 1) := by decide +kernel
theorem dX9_hasText_9 : decode cX9_hasText 9 = .ok (.imul, 1) := by decide +kernel
theorem dX9_hasText_10 : decode cX9_hasText 10 = .ok (.iadd, 1) := by decide +kernel
theorem dX9_hasText_11 : decode cX9_hasText 11 = .ok (.iaload, 1) := by decide +kernel
theorem dX9_hasText_12 : decode cX9_hasText 12 = .ok (.ifCond .le 7, 3) := by decide +kernel
theorem dX9_hasText_15 : decode cX9_hasText 15 = .ok (.iconst 1, 1) := by decide +kernel
theorem dX9_hasText_16 : decode cX9_hasText 16 = .ok (.goto 4, 3) := by decide +kernel
theorem dX9_hasText_19 : decode cX9_hasText 19 = .ok (.iconst 0, 1) := by decide +kernel
theorem dX9_hasText_20 : decode cX9_hasText 20 = .ok (.ireturn, 1) := by decide +kernel
theorem dX9_text_0 : decode cX9_text 0 = .ok (.iload_n 1, 1) := by decide +kernel
theorem dX9_text_1 : decode cX9_text 1 = .ok (.iconst 0, 1) := by decide +kernel
theorem dX9_text_2 : decode cX9_text 2 = .ok (.iconst 1, 1) := by decide +kernel
theorem dX9_text_3 : decode cX9_text 3 = .ok (.invokestatic 57, 3) := by decide +kernel
theorem dX9_text_6 : decode cX9_text 6 = .ok (.ifCond .ne 9, 3) := by decide +kernel
theorem dX9_text_9 : decode cX9_text 9 = .ok (.aload_n 0, 1) := by decide +kernel
theorem dX9_text_10 : decode cX9_text 10 = .ok (.iconst 1, 1) := by decide +kernel
theorem dX9_text_11 : decode cX9_text 11 = .ok (.invokevirtual 61, 3) := by decide +kernel
theorem dX9_text_14 : decode cX9_text 14 = .ok (.ireturn, 1) := by decide +kernel
theorem dX9_text_15 : decode cX9_text 15 = .ok (.aload_n 0, 1) := by decide +kernel
theorem dX9_text_16 : decode cX9_text 16 = .ok (.iload_n 1, 1) := by decide +kernel
theorem dX9_text_17 : decode cX9_text 17 = .ok (.putfield 70, 3) := by decide +kernel
theorem dX9_text_20 : decode cX9_text 20 = .ok (.aload_n 0, 1) := by decide +kernel
theorem dX9_text_21 : decode cX9_text 21 = .ok (.iconst 0, 1) := by decide +kernel
theorem dX9_text_22 : decode cX9_text 22 = .ok (.putfield 67, 3) := by decide +kernel
theorem dX9_text_25 : decode cX9_text 25 = .ok (.aload_n 0, 1) := by decide +kernel
theorem dX9_text_26 : decode cX9_text 26 = .ok (.iconst 0, 1) := by decide +kernel
theorem dX9_text_27 : decode cX9_text 27 = .ok (.putfield 100, 3) := by decide +kernel
theorem dX9_text_30 : decode cX9_text 30 = .ok (.aload_n 0, 1) := by decide +kernel
theorem dX9_text_31 : decode cX9_text 31 = .ok (.iconst 0, 1) := by decide +kernel
theorem dX9_text_32 : decode cX9_text 32 = .ok (.putfield 73, 3) := by decide +kernel
theorem dX9_text_35 : decode cX9_text 35 = .ok (.aload_n 0, 1) := by decide +kernel
theorem dX9_text_36 : decode cX9_text 36 = .ok (.invokevirtual 110, 3) := by decide +kernel
theorem dX9_text_39 : decode cX9_text 39 = .ok (.ifCond .eq 20, 3) := by decide +kernel
theorem dX9_text_42 : decode cX9_text 42 = .ok (.aload_n 0, 1) := by decide +kernel
theorem dX9_text_43 : decode cX9_text 43 = .ok (.getfield 67, 3) := by decide +kernel
theorem dX9_text_46 : decode cX9_text 46 = .ok (.aload_n 0, 1) := by decide +kernel
theorem dX9_text_47 : decode cX9_text 47 = .ok (.getfield 7, 3) := by decide +kernel
theorem dX9_text_50 : decode cX9_text 50 = .ok (.iconst 4, 1) := by decide +kernel
theorem dX9_text_51 : decode cX9_text 51 = .ok (.iaload, 1) := by decide +kernel
theorem dX9_text_52 : decode cX9_text 52 = .ok (.if_icmp .ne 7, 3) := by decide +kernel
theorem dX9_text_55 : decode cX9_text 55 = .ok (.iconst 1, 1) := by decide +kernel
theorem dX9_text_56 : decode cX9_text 56 = .ok (.goto 4, 3) := by decide +kernel
theorem dX9_text_59 : decode cX9_text 59 = .ok (.iconst 0, 1) := by decide +kernel
theorem dX9_text_60 : decode cX9_text 60 = .ok (.istore_n 2, 1) := by decide +kernel
theorem dX9_text_61 : decode cX9_text 61 = .ok (.aload_n 0, 1) := by decide +kernel
theorem dX9_text_62 : decode cX9_text 62 = .ok (.getfield 7, 3) := by decide +kernel
theorem dX9_text_65 : decode cX9_text 65 = .ok (.iconst 4, 1) := by decide +kernel
theorem dX9_text_66 : decode cX9_text 66 = .ok (.iconst 0, 1) := by decide +kernel
theorem dX9_text_67 : decode cX9_text 67 = .ok (.iastore, 1) := by decide +kernel
theorem dX9_text_68 : decode cX9_text 68 = .ok (.iload_n 2, 1) := by decide +kernel
theorem dX9_text_69 : decode cX9_text 69 = .ok (.ifCond .ne 11, 3) := by decide +kernel
theorem dX9_text_72 : decode cX9_text 72 = .ok (.bipush (-10), 2) := by decide +kernel
theorem dX9_text_74 : decode cX9_text 74 = .ok (.aload_n 0, 1) := by decide +kernel
theorem dX9_text_75 : decode cX9_text 75 = .ok (.getfield 67, 3) := by decide +kernel
theorem dX9_text_78 : decode cX9_text 78 = .ok (.isub, 1) := by decide +kernel
theorem dX9_text_79 : decode cX9_text 79 = .ok (.ireturn, 1) := by decide +kernel
theorem dX9_text_80 : decode cX9_text 80 = .ok (.bipush 53, 2) := by decide +kernel
theorem dX9_text_82 : decode cX9_text 82 = .ok (.bipush 125, 2) := by decide +kernel
theorem dX9_text_84 : decode cX9_text 84 = .ok (.iload_n 1, 1) := by decide +kernel
theorem dX9_text_85 : decode cX9_text 85 = .ok (.imul, 1) := by decide +kernel
theorem dX9_text_86 : decode cX9_text 86 = .ok (.iadd, 1) := by decide +kernel
theorem dX9_text_87 : decode cX9_text 87 = .ok (.istore_n 3, 1) := by decide +kernel
theorem dX9_text_88 : decode cX9_text 88 = .ok (.aload_n 0, 1) := by decide +kernel
theorem dX9_text_89 : decode cX9_text 89 = .ok (.getfield 7, 3) := by decide +kernel
theorem dX9_text_92 : decode cX9_text 92 = .ok (.iload_n 3, 1) := by decide +kernel
theorem dX9_text_93 : decode cX9_text 93 = .ok (.aload_n 0, 1) := by decide +kernel
theorem dX9_text_94 : decode cX9_text 94 = .ok (.getfield 73, 3) := by decide +kernel
theorem dX9_text_97 : decode cX9_text 97 = .ok (.iastore, 1) := by decide +kernel
theorem dX9_text_98 : decode cX9_text 98 = .ok (.iconst 0, 1) := by decide +kernel
theorem dX9_text_99 : decode cX9_text 99 = .ok (.istore 4, 2) := by decide +kernel
theorem dX9_text_101 : decode cX9_text 101 = .ok (.iload 4, 2) := by decide +kernel
theorem dX9_text_103 : decode cX9_text 103 = .ok (.iconst 2, 1) := by decide +kernel
theorem dX9_text_104 : decode cX9_text 104 = .ok (.aload_n 0, 1) := by decide +kernel
theorem dX9_text_105 : decode cX9_text 105 = .ok (.getfield 73, 3) := by decide +kernel
theorem dX9_text_108 : decode cX9_text 108 = .ok (.imul, 1) := by decide +kernel
theorem dX9_text_109 : decode cX9_text 109 = .ok (.if_icmp .ge 27, 3) := by decide +kernel
theorem dX9_text_112 : decode cX9_text 112 = .ok (.aload_n 0, 1) := by decide +kernel
theorem dX9_text_113 : decode cX9_text 113 = .ok (.getfield 7, 3) := by decide +kernel
theorem dX9_text_116 : decode cX9_text 116 = .ok (.iload_n 3, 1) := by decide +kernel
theorem dX9_text_117 : decode cX9_text 117 = .ok (.iconst 1, 1) := by decide +kernel
theorem dX9_text_118 : decode cX9_text 118 = .ok (.iadd, 1) := by decide +kernel
theorem dX9_text_119 : decode cX9_text 119 = .ok (.iload 4, 2) := by decide +kernel
theorem dX9_text_121 : decode cX9_text 121 = .ok (.iadd, 1) := by decide +kernel
theorem dX9_text_122 : decode cX9_text 122 = .ok (.aload_n 0, 1) := by decide +kernel
theorem dX9_text_123 : decode cX9_text 123 = .ok (.getfield 26, 3) := by decide +kernel
theorem dX9_text_126 : decode cX9_text 126 = .ok (.iload 4, 2) := by decide +kernel
theorem dX9_text_128 : decode cX9_text 128 = .ok (.iaload, 1) := by decide +kernel
theorem dX9_text_129 : decode cX9_text 129 = .ok (.iastore, 1) := by decide +kernel
theorem dX9_text_130 : decode cX9_text 130 = .ok (.iinc 4 1, 3) := by decide +kernel
theorem dX9_text_133 : decode cX9_text 133 = .ok (.goto (-32), 3) := by decide +kernel
theorem dX9_text_136 : decode cX9_text 136 = .ok (.iconst 1, 1) := by decide +kernel
theorem dX9_text_137 : decode cX9_text 137 = .ok (.ireturn, 1) := by decide +kernel
theorem dX9_untell_0 : decode cX9_untell 0 = .ok (.iload_n 1, 1) := by decide +kernel
theorem dX9_untell_1 : decode cX9_untell 1 = .ok (.iconst 0, 1) := by decide +kernel
theorem dX9_untell_2 : decode cX9_untell 2 = .ok (.iconst 1, 1) := by decide +kernel
theorem dX9_untell_3 : decode cX9_untell 3 = .ok (.invokestatic 57, 3) := by decide +kernel
theorem dX9_untell_6 : decode cX9_untell 6 = .ok (.ifCond .ne 9, 3) := by decide +kernel
theorem dX9_untell_9 : decode cX9_untell 9 = .ok (.aload_n 0, 1) := by decide +kernel
theorem dX9_untell_10 : decode cX9_untell 10 = .ok (.iconst 1, 1) := by decide +kernel
theorem dX9_untell_11 : decode cX9_untell 11 = .ok (.invokevirtual 61, 3) := by decide +kernel
theorem dX9_untell_14 : decode cX9_untell 14 = .ok (.ireturn, 1) := by decide +kernel
theorem dX9_untell_15 : decode cX9_untell 15 = .ok (.aload_n 0, 1) := by decide +kernel
theorem dX9_untell_16 : decode cX9_untell 16 = .ok (.iload_n 1, 1) := by decide +kernel
theorem dX9_untell_17 : decode cX9_untell 17 = .ok (.invokevirtual 113, 3) := by decide +kernel
theorem dX9_untell_20 : decode cX9_untell 20 = .ok (.ifCond .eq 7, 3) := by decide +kernel
theorem dX9_untell_23 : decode cX9_untell 23 = .ok (.iconst 1, 1) := by decide +kernel
theorem dX9_untell_24 : decode cX9_untell 24 = .ok (.goto 4, 3) := by decide +kernel
theorem dX9_untell_27 : decode cX9_untell 27 = .ok (.iconst 0, 1) := by decide +kernel
theorem dX9_untell_28 : decode cX9_untell 28 = .ok (.istore_n 2, 1) := by decide +kernel
theorem dX9_untell_29 : decode cX9_untell 29 = .ok (.aload_n 0, 1) := by decide +kernel
theorem dX9_untell_30 : decode cX9_untell 30 = .ok (.getfield 7, 3) := by decide +kernel
theorem dX9_untell_33 : decode cX9_untell 33 = .ok (.bipush 53, 2) := by decide +kernel
theorem dX9_untell_35 : decode cX9_untell 35 = .ok (.bipush 125, 2) := by decide +kernel
theorem dX9_untell_37 : decode cX9_untell 37 = .ok (.iload_n 1, 1) := by decide +kernel
theorem dX9_untell_38 : decode cX9_untell 38 = .ok (.imul, 1) := by decide +kernel
theorem dX9_untell_39 : decode cX9_untell 39 = .ok (.iadd, 1) := by decide +kernel
theorem dX9_untell_40 : decode cX9_untell 40 = .ok (.iconst 0, 1) := by decide +kernel
theorem dX9_untell_41 : decode cX9_untell 41 = .ok (.iastore, 1) := by decide +kernel
theorem dX9_untell_42 : decode cX9_untell 42 = .ok (.iload_n 2, 1) := by decide +kernel
theorem dX9_untell_43 : decode cX9_untell 43 = .ok (.ireturn, 1) := by decide +kernel
theorem dX9_joined_0 : decode cX9_joined 0 = .ok (.iload_n 0, 1) := by decide +kernel
theorem dX9_joined_1 : decode cX9_joined 1 = .ok (.tableswitch 217 37 62 #[153, 203, 217, 217, 217, 127, 119, 217, 123, 217, 131, 217, 217, 217, 217, 217, 217, 217, 217, 217, 217, 217, 217, 170, 192, 181], 119) := by decide +kernel
theorem dX9_joined_120 : decode cX9_joined 120 = .ok (.iload_n 1, 1) := by decide +kernel
theorem dX9_joined_121 : decode cX9_joined 121 = .ok (.iload_n 2, 1) := by decide +kernel
theorem dX9_joined_122 : decode cX9_joined 122 = .ok (.iadd, 1) := by decide +kernel
theorem dX9_joined_123 : decode cX9_joined 123 = .ok (.ireturn, 1) := by decide +kernel
theorem dX9_joined_124 : decode cX9_joined 124 = .ok (.iload_n 1, 1) := by decide +kernel
theorem dX9_joined_125 : decode cX9_joined 125 = .ok (.iload_n 2, 1) := by decide +kernel
theorem dX9_joined_126 : decode cX9_joined 126 = .ok (.isub, 1) := by decide +kernel
theorem dX9_joined_127 : decode cX9_joined 127 = .ok (.ireturn, 1) := by decide +kernel
theorem dX9_joined_128 : decode cX9_joined 128 = .ok (.iload_n 1, 1) := by decide +kernel
theorem dX9_joined_129 : decode cX9_joined 129 = .ok (.iload_n 2, 1) := by decide +kernel
theorem dX9_joined_130 : decode cX9_joined 130 = .ok (.imul, 1) := by decide +kernel
theorem dX9_joined_131 : decode cX9_joined 131 = .ok (.ireturn, 1) := by decide +kernel
theorem dX9_joined_132 : decode cX9_joined 132 = .ok (.iload_n 2, 1) := by decide +kernel
theorem dX9_joined_133 : decode cX9_joined 133 = .ok (.ifCond .ne 7, 3) := by decide +kernel
theorem dX9_joined_136 : decode cX9_joined 136 = .ok (.iconst 0, 1) := by decide +kernel
theorem dX9_joined_137 : decode cX9_joined 137 = .ok (.goto 16, 3) := by decide +kernel
theorem dX9_joined_140 : decode cX9_joined 140 = .ok (.iload_n 2, 1) := by decide +kernel
theorem dX9_joined_141 : decode cX9_joined 141 = .ok (.iconst (-1), 1) := by decide +kernel
theorem dX9_joined_142 : decode cX9_joined 142 = .ok (.if_icmp .ne 8, 3) := by decide +kernel
theorem dX9_joined_145 : decode cX9_joined 145 = .ok (.iload_n 1, 1) := by decide +kernel
theorem dX9_joined_146 : decode cX9_joined 146 = .ok (.ineg, 1) := by decide +kernel
theorem dX9_joined_147 : decode cX9_joined 147 = .ok (.goto 6, 3) := by decide +kernel
theorem dX9_joined_150 : decode cX9_joined 150 = .ok (.iload_n 1, 1) := by decide +kernel
theorem dX9_joined_151 : decode cX9_joined 151 = .ok (.iload_n 2, 1) := by decide +kernel
theorem dX9_joined_152 : decode cX9_joined 152 = .ok (.idiv, 1) := by decide +kernel
theorem dX9_joined_153 : decode cX9_joined 153 = .ok (.ireturn, 1) := by decide +kernel
theorem dX9_joined_154 : decode cX9_joined 154 = .ok (.iload_n 2, 1) := by decide +kernel
theorem dX9_joined_155 : decode cX9_joined 155 = .ok (.ifCond .eq 8, 3) := by decide +kernel
theorem dX9_joined_158 : decode cX9_joined 158 = .ok (.iload_n 2, 1) := by decide +kernel
theorem dX9_joined_159 : decode cX9_joined 159 = .ok (.iconst (-1), 1) := by decide +kernel
theorem dX9_joined_160 : decode cX9_joined 160 = .ok (.if_icmp .ne 7, 3) := by decide +kernel
theorem dX9_joined_163 : decode cX9_joined 163 = .ok (.iconst 0, 1) := by decide +kernel
theorem dX9_joined_164 : decode cX9_joined 164 = .ok (.goto 6, 3) := by decide +kernel
theorem dX9_joined_167 : decode cX9_joined 167 = .ok (.iload_n 1, 1) := by decide +kernel
theorem dX9_joined_168 : decode cX9_joined 168 = .ok (.iload_n 2, 1) := by decide +kernel
theorem dX9_joined_169 : decode cX9_joined 169 = .ok (.irem, 1) := by decide +kernel
theorem dX9_joined_170 : decode cX9_joined 170 = .ok (.ireturn, 1) := by decide +kernel
theorem dX9_joined_171 : decode cX9_joined 171 = .ok (.iload_n 1, 1) := by decide +kernel
theorem dX9_joined_172 : decode cX9_joined 172 = .ok (.iload_n 2, 1) := by decide +kernel
theorem dX9_joined_173 : decode cX9_joined 173 = .ok (.if_icmp .ge 7, 3) := by decide +kernel
theorem dX9_joined_176 : decode cX9_joined 176 = .ok (.iconst 1, 1) := by decide +kernel
theorem dX9_joined_177 : decode cX9_joined 177 = .ok (.goto 4, 3) := by decide +kernel
theorem dX9_joined_180 : decode cX9_joined 180 = .ok (.iconst 0, 1) := by decide +kernel
theorem dX9_joined_181 : decode cX9_joined 181 = .ok (.ireturn, 1) := by decide +kernel
theorem dX9_joined_182 : decode cX9_joined 182 = .ok (.iload_n 1, 1) := by decide +kernel
theorem dX9_joined_183 : decode cX9_joined 183 = .ok (.iload_n 2, 1) := by decide +kernel
theorem dX9_joined_184 : decode cX9_joined 184 = .ok (.if_icmp .le 7, 3) := by decide +kernel
theorem dX9_joined_187 : decode cX9_joined 187 = .ok (.iconst 1, 1) := by decide +kernel
theorem dX9_joined_188 : decode cX9_joined 188 = .ok (.goto 4, 3) := by decide +kernel
theorem dX9_joined_191 : decode cX9_joined 191 = .ok (.iconst 0, 1) := by decide +kernel
theorem dX9_joined_192 : decode cX9_joined 192 = .ok (.ireturn, 1) := by decide +kernel
theorem dX9_joined_193 : decode cX9_joined 193 = .ok (.iload_n 1, 1) := by decide +kernel
theorem dX9_joined_194 : decode cX9_joined 194 = .ok (.iload_n 2, 1) := by decide +kernel
theorem dX9_joined_195 : decode cX9_joined 195 = .ok (.if_icmp .ne 7, 3) := by decide +kernel
theorem dX9_joined_198 : decode cX9_joined 198 = .ok (.iconst 1, 1) := by decide +kernel
theorem dX9_joined_199 : decode cX9_joined 199 = .ok (.goto 4, 3) := by decide +kernel
theorem dX9_joined_202 : decode cX9_joined 202 = .ok (.iconst 0, 1) := by decide +kernel
theorem dX9_joined_203 : decode cX9_joined 203 = .ok (.ireturn, 1) := by decide +kernel
theorem dX9_joined_204 : decode cX9_joined 204 = .ok (.iload_n 1, 1) := by decide +kernel
theorem dX9_joined_205 : decode cX9_joined 205 = .ok (.ifCond .eq 11, 3) := by decide +kernel
theorem dX9_joined_208 : decode cX9_joined 208 = .ok (.iload_n 2, 1) := by decide +kernel
theorem dX9_joined_209 : decode cX9_joined 209 = .ok (.ifCond .eq 7, 3) := by decide +kernel
theorem dX9_joined_212 : decode cX9_joined 212 = .ok (.iconst 1, 1) := by decide +kernel
theorem dX9_joined_213 : decode cX9_joined 213 = .ok (.goto 4, 3) := by decide +kernel
theorem dX9_joined_216 : decode cX9_joined 216 = .ok (.iconst 0, 1) := by decide +kernel
theorem dX9_joined_217 : decode cX9_joined 217 = .ok (.ireturn, 1) := by decide +kernel
theorem dX9_joined_218 : decode cX9_joined 218 = .ok (.iload_n 1, 1) := by decide +kernel
theorem dX9_joined_219 : decode cX9_joined 219 = .ok (.ifCond .ne 7, 3) := by decide +kernel
theorem dX9_joined_222 : decode cX9_joined 222 = .ok (.iload_n 2, 1) := by decide +kernel
theorem dX9_joined_223 : decode cX9_joined 223 = .ok (.ifCond .eq 7, 3) := by decide +kernel
theorem dX9_joined_226 : decode cX9_joined 226 = .ok (.iconst 1, 1) := by decide +kernel
theorem dX9_joined_227 : decode cX9_joined 227 = .ok (.goto 4, 3) := by decide +kernel
theorem dX9_joined_230 : decode cX9_joined 230 = .ok (.iconst 0, 1) := by decide +kernel
theorem dX9_joined_231 : decode cX9_joined 231 = .ok (.ireturn, 1) := by decide +kernel
theorem dX9_worked_0 : decode cX9_worked 0 = .ok (.bipush 53, 2) := by decide +kernel
theorem dX9_worked_2 : decode cX9_worked 2 = .ok (.bipush 125, 2) := by decide +kernel
theorem dX9_worked_4 : decode cX9_worked 4 = .ok (.iload_n 1, 1) := by decide +kernel
theorem dX9_worked_5 : decode cX9_worked 5 = .ok (.imul, 1) := by decide +kernel
theorem dX9_worked_6 : decode cX9_worked 6 = .ok (.iadd, 1) := by decide +kernel
theorem dX9_worked_7 : decode cX9_worked 7 = .ok (.istore_n 2, 1) := by decide +kernel
theorem dX9_worked_8 : decode cX9_worked 8 = .ok (.iconst 0, 1) := by decide +kernel
theorem dX9_worked_9 : decode cX9_worked 9 = .ok (.istore_n 3, 1) := by decide +kernel
theorem dX9_worked_10 : decode cX9_worked 10 = .ok (.iconst 0, 1) := by decide +kernel
theorem dX9_worked_11 : decode cX9_worked 11 = .ok (.istore 4, 2) := by decide +kernel
theorem dX9_worked_13 : decode cX9_worked 13 = .ok (.iload 4, 2) := by decide +kernel
theorem dX9_worked_15 : decode cX9_worked 15 = .ok (.aload_n 0, 1) := by decide +kernel
theorem dX9_worked_16 : decode cX9_worked 16 = .ok (.getfield 7, 3) := by decide +kernel
theorem dX9_worked_19 : decode cX9_worked 19 = .ok (.iload_n 2, 1) := by decide +kernel
theorem dX9_worked_20 : decode cX9_worked 20 = .ok (.iaload, 1) := by decide +kernel
theorem dX9_worked_21 : decode cX9_worked 21 = .ok (.if_icmp .ge 142, 3) := by decide +kernel
theorem dX9_worked_24 : decode cX9_worked 24 = .ok (.aload_n 0, 1) := by decide +kernel
theorem dX9_worked_25 : decode cX9_worked 25 = .ok (.getfield 7, 3) := by decide +kernel
theorem dX9_worked_28 : decode cX9_worked 28 = .ok (.iload_n 2, 1) := by decide +kernel
theorem dX9_worked_29 : decode cX9_worked 29 = .ok (.iconst 1, 1) := by decide +kernel
theorem dX9_worked_30 : decode cX9_worked 30 = .ok (.iadd, 1) := by decide +kernel
theorem dX9_worked_31 : decode cX9_worked 31 = .ok (.iconst 2, 1) := by decide +kernel
theorem dX9_worked_32 : decode cX9_worked 32 = .ok (.iload 4, 2) := by decide +kernel
theorem dX9_worked_34 : decode cX9_worked 34 = .ok (.imul, 1) := by decide +kernel
theorem dX9_worked_35 : decode cX9_worked 35 = .ok (.iadd, 1) := by decide +kernel
theorem dX9_worked_36 : decode cX9_worked 36 = .ok (.iaload, 1) := by decide +kernel
theorem dX9_worked_37 : decode cX9_worked 37 = .ok (.istore 5, 2) := by decide +kernel
theorem dX9_worked_39 : decode cX9_worked 39 = .ok (.aload_n 0, 1) := by decide +kernel
theorem dX9_worked_40 : decode cX9_worked 40 = .ok (.getfield 7, 3) := by decide +kernel
theorem dX9_worked_43 : decode cX9_worked 43 = .ok (.iload_n 2, 1) := by decide +kernel
theorem dX9_worked_44 : decode cX9_worked 44 = .ok (.iconst 2, 1) := by decide +kernel
theorem dX9_worked_45 : decode cX9_worked 45 = .ok (.iadd, 1) := by decide +kernel
theorem dX9_worked_46 : decode cX9_worked 46 = .ok (.iconst 2, 1) := by decide +kernel
theorem dX9_worked_47 : decode cX9_worked 47 = .ok (.iload 4, 2) := by decide +kernel
theorem dX9_worked_49 : decode cX9_worked 49 = .ok (.imul, 1) := by decide +kernel
theorem dX9_worked_50 : decode cX9_worked 50 = .ok (.iadd, 1) := by decide +kernel
theorem dX9_worked_51 : decode cX9_worked 51 = .ok (.iaload, 1) := by decide +kernel
theorem dX9_worked_52 : decode cX9_worked 52 = .ok (.istore 6, 2) := by decide +kernel
theorem dX9_worked_54 : decode cX9_worked 54 = .ok (.iload 5, 2) := by decide +kernel
theorem dX9_worked_56 : decode cX9_worked 56 = .ok (.ifCond .eq 9, 3) := by decide +kernel
theorem dX9_worked_59 : decode cX9_worked 59 = .ok (.iload 5, 2) := by decide +kernel
theorem dX9_worked_61 : decode cX9_worked 61 = .ok (.iconst 1, 1) := by decide +kernel
theorem dX9_worked_62 : decode cX9_worked 62 = .ok (.if_icmp .ne 32, 3) := by decide +kernel
theorem dX9_worked_65 : decode cX9_worked 65 = .ok (.aload_n 0, 1) := by decide +kernel
theorem dX9_worked_66 : decode cX9_worked 66 = .ok (.getfield 32, 3) := by decide +kernel
theorem dX9_worked_69 : decode cX9_worked 69 = .ok (.iload_n 3, 1) := by decide +kernel
theorem dX9_worked_70 : decode cX9_worked 70 = .ok (.iload 5, 2) := by decide +kernel
theorem dX9_worked_72 : decode cX9_worked 72 = .ok (.ifCond .ne 8, 3) := by decide +kernel
theorem dX9_worked_75 : decode cX9_worked 75 = .ok (.iload 6, 2) := by decide +kernel
theorem dX9_worked_77 : decode cX9_worked 77 = .ok (.goto 10, 3) := by decide +kernel
theorem dX9_worked_80 : decode cX9_worked 80 = .ok (.aload_n 0, 1) := by decide +kernel
theorem dX9_worked_81 : decode cX9_worked 81 = .ok (.getfield 29, 3) := by decide +kernel
theorem dX9_worked_84 : decode cX9_worked 84 = .ok (.iload 6, 2) := by decide +kernel
theorem dX9_worked_86 : decode cX9_worked 86 = .ok (.iaload, 1) := by decide +kernel
theorem dX9_worked_87 : decode cX9_worked 87 = .ok (.iastore, 1) := by decide +kernel
theorem dX9_worked_88 : decode cX9_worked 88 = .ok (.iinc 3 1, 3) := by decide +kernel
theorem dX9_worked_91 : decode cX9_worked 91 = .ok (.goto 66, 3) := by decide +kernel
theorem dX9_worked_94 : decode cX9_worked 94 = .ok (.iload 5, 2) := by decide +kernel
theorem dX9_worked_96 : decode cX9_worked 96 = .ok (.iconst 2, 1) := by decide +kernel
theorem dX9_worked_97 : decode cX9_worked 97 = .ok (.if_icmp .ne 30, 3) := by decide +kernel
theorem dX9_worked_100 : decode cX9_worked 100 = .ok (.aload_n 0, 1) := by decide +kernel
theorem dX9_worked_101 : decode cX9_worked 101 = .ok (.getfield 32, 3) := by decide +kernel
theorem dX9_worked_104 : decode cX9_worked 104 = .ok (.iload_n 3, 1) := by decide +kernel
theorem dX9_worked_105 : decode cX9_worked 105 = .ok (.iconst 1, 1) := by decide +kernel
theorem dX9_worked_106 : decode cX9_worked 106 = .ok (.isub, 1) := by decide +kernel
theorem dX9_worked_107 : decode cX9_worked 107 = .ok (.aload_n 0, 1) := by decide +kernel
theorem dX9_worked_108 : decode cX9_worked 108 = .ok (.getfield 32, 3) := by decide +kernel
theorem dX9_worked_111 : decode cX9_worked 111 = .ok (.iload_n 3, 1) := by decide +kernel
theorem dX9_worked_112 : decode cX9_worked 112 = .ok (.iconst 1, 1) := by decide +kernel
theorem dX9_worked_113 : decode cX9_worked 113 = .ok (.isub, 1) := by decide +kernel
theorem dX9_worked_114 : decode cX9_worked 114 = .ok (.iaload, 1) := by decide +kernel
theorem dX9_worked_115 : decode cX9_worked 115 = .ok (.ifCond .ne 7, 3) := by decide +kernel
theorem dX9_worked_118 : decode cX9_worked 118 = .ok (.iconst 1, 1) := by decide +kernel
theorem dX9_worked_119 : decode cX9_worked 119 = .ok (.goto 4, 3) := by decide +kernel
theorem dX9_worked_122 : decode cX9_worked 122 = .ok (.iconst 0, 1) := by decide +kernel
theorem dX9_worked_123 : decode cX9_worked 123 = .ok (.iastore, 1) := by decide +kernel
theorem dX9_worked_124 : decode cX9_worked 124 = .ok (.goto 33, 3) := by decide +kernel
theorem dX9_worked_127 : decode cX9_worked 127 = .ok (.iinc 3 (-1), 3) := by decide +kernel
theorem dX9_worked_130 : decode cX9_worked 130 = .ok (.aload_n 0, 1) := by decide +kernel
theorem dX9_worked_131 : decode cX9_worked 131 = .ok (.getfield 32, 3) := by decide +kernel
theorem dX9_worked_134 : decode cX9_worked 134 = .ok (.iload_n 3, 1) := by decide +kernel
theorem dX9_worked_135 : decode cX9_worked 135 = .ok (.iconst 1, 1) := by decide +kernel
theorem dX9_worked_136 : decode cX9_worked 136 = .ok (.isub, 1) := by decide +kernel
theorem dX9_worked_137 : decode cX9_worked 137 = .ok (.iload 6, 2) := by decide +kernel
theorem dX9_worked_139 : decode cX9_worked 139 = .ok (.aload_n 0, 1) := by decide +kernel
theorem dX9_worked_140 : decode cX9_worked 140 = .ok (.getfield 32, 3) := by decide +kernel
theorem dX9_worked_143 : decode cX9_worked 143 = .ok (.iload_n 3, 1) := by decide +kernel
theorem dX9_worked_144 : decode cX9_worked 144 = .ok (.iconst 1, 1) := by decide +kernel
theorem dX9_worked_145 : decode cX9_worked 145 = .ok (.isub, 1) := by decide +kernel
theorem dX9_worked_146 : decode cX9_worked 146 = .ok (.iaload, 1) := by decide +kernel
theorem dX9_worked_147 : decode cX9_worked 147 = .ok (.aload_n 0, 1) := by decide +kernel
theorem dX9_worked_148 : decode cX9_worked 148 = .ok (.getfield 32, 3) := by decide +kernel
theorem dX9_worked_151 : decode cX9_worked 151 = .ok (.iload_n 3, 1) := by decide +kernel
theorem dX9_worked_152 : decode cX9_worked 152 = .ok (.iaload, 1) := by decide +kernel
theorem dX9_worked_153 : decode cX9_worked 153 = .ok (.invokestatic 116, 3) := by decide +kernel
theorem dX9_worked_156 : decode cX9_worked 156 = .ok (.iastore, 1) := by decide +kernel
theorem dX9_worked_157 : decode cX9_worked 157 = .ok (.iinc 4 1, 3) := by decide +kernel
theorem dX9_worked_160 : decode cX9_worked 160 = .ok (.goto (-147), 3) := by decide +kernel
theorem dX9_worked_163 : decode cX9_worked 163 = .ok (.aload_n 0, 1) := by decide +kernel
theorem dX9_worked_164 : decode cX9_worked 164 = .ok (.getfield 32, 3) := by decide +kernel
theorem dX9_worked_167 : decode cX9_worked 167 = .ok (.iconst 0, 1) := by decide +kernel
theorem dX9_worked_168 : decode cX9_worked 168 = .ok (.iaload, 1) := by decide +kernel
theorem dX9_worked_169 : decode cX9_worked 169 = .ok (.ireturn, 1) := by decide +kernel
theorem dX9_burnsOf_0 : decode cX9_burnsOf 0 = .ok (.bipush 10, 2) := by decide +kernel
theorem dX9_burnsOf_2 : decode cX9_burnsOf 2 = .ok (.aload_n 0, 1) := by decide +kernel
theorem dX9_burnsOf_3 : decode cX9_burnsOf 3 = .ok (.iload_n 1, 1) := by decide +kernel
theorem dX9_burnsOf_4 : decode cX9_burnsOf 4 = .ok (.iconst 1, 1) := by decide +kernel
theorem dX9_burnsOf_5 : decode cX9_burnsOf 5 = .ok (.invokevirtual 120, 3) := by decide +kernel
theorem dX9_burnsOf_8 : decode cX9_burnsOf 8 = .ok (.iadd, 1) := by decide +kernel
theorem dX9_burnsOf_9 : decode cX9_burnsOf 9 = .ok (.istore_n 3, 1) := by decide +kernel
theorem dX9_burnsOf_10 : decode cX9_burnsOf 10 = .ok (.aload_n 0, 1) := by decide +kernel
theorem dX9_burnsOf_11 : decode cX9_burnsOf 11 = .ok (.iload_n 1, 1) := by decide +kernel
theorem dX9_burnsOf_12 : decode cX9_burnsOf 12 = .ok (.iconst 0, 1) := by decide +kernel
theorem dX9_burnsOf_13 : decode cX9_burnsOf 13 = .ok (.invokevirtual 120, 3) := by decide +kernel
theorem dX9_burnsOf_16 : decode cX9_burnsOf 16 = .ok (.tableswitch 88 1 6 #[40, 44, 48, 52, 63, 76], 40) := by decide +kernel
theorem dX9_burnsOf_56 : decode cX9_burnsOf 56 = .ok (.iload_n 3, 1) := by decide +kernel
theorem dX9_burnsOf_57 : decode cX9_burnsOf 57 = .ok (.iconst 5, 1) := by decide +kernel
theorem dX9_burnsOf_58 : decode cX9_burnsOf 58 = .ok (.iadd, 1) := by decide +kernel
theorem dX9_burnsOf_59 : decode cX9_burnsOf 59 = .ok (.ireturn, 1) := by decide +kernel
theorem dX9_burnsOf_60 : decode cX9_burnsOf 60 = .ok (.iconst 2, 1) := by decide +kernel
theorem dX9_burnsOf_61 : decode cX9_burnsOf 61 = .ok (.iload_n 3, 1) := by decide +kernel
theorem dX9_burnsOf_62 : decode cX9_burnsOf 62 = .ok (.imul, 1) := by decide +kernel
theorem dX9_burnsOf_63 : decode cX9_burnsOf 63 = .ok (.ireturn, 1) := by decide +kernel
theorem dX9_burnsOf_64 : decode cX9_burnsOf 64 = .ok (.iload_n 3, 1) := by decide +kernel
theorem dX9_burnsOf_65 : decode cX9_burnsOf 65 = .ok (.iconst 2, 1) := by decide +kernel
theorem dX9_burnsOf_66 : decode cX9_burnsOf 66 = .ok (.idiv, 1) := by decide +kernel
theorem dX9_burnsOf_67 : decode cX9_burnsOf 67 = .ok (.ireturn, 1) := by decide +kernel
theorem dX9_burnsOf_68 : decode cX9_burnsOf 68 = .ok (.iload_n 3, 1) := by decide +kernel
theorem dX9_burnsOf_69 : decode cX9_burnsOf 69 = .ok (.iconst 5, 1) := by decide +kernel
theorem dX9_burnsOf_70 : decode cX9_burnsOf 70 = .ok (.iadd, 1) := by decide +kernel
theorem dX9_burnsOf_71 : decode cX9_burnsOf 71 = .ok (.bipush 10, 2) := by decide +kernel
theorem dX9_burnsOf_73 : decode cX9_burnsOf 73 = .ok (.iload_n 2, 1) := by decide +kernel
theorem dX9_burnsOf_74 : decode cX9_burnsOf 74 = .ok (.iconst 1, 1) := by decide +kernel
theorem dX9_burnsOf_75 : decode cX9_burnsOf 75 = .ok (.isub, 1) := by decide +kernel
theorem dX9_burnsOf_76 : decode cX9_burnsOf 76 = .ok (.imul, 1) := by decide +kernel
theorem dX9_burnsOf_77 : decode cX9_burnsOf 77 = .ok (.iadd, 1) := by decide +kernel
theorem dX9_burnsOf_78 : decode cX9_burnsOf 78 = .ok (.ireturn, 1) := by decide +kernel
theorem dX9_burnsOf_79 : decode cX9_burnsOf 79 = .ok (.iconst 2, 1) := by decide +kernel
theorem dX9_burnsOf_80 : decode cX9_burnsOf 80 = .ok (.iload_n 3, 1) := by decide +kernel
theorem dX9_burnsOf_81 : decode cX9_burnsOf 81 = .ok (.imul, 1) := by decide +kernel
theorem dX9_burnsOf_82 : decode cX9_burnsOf 82 = .ok (.aload_n 0, 1) := by decide +kernel
theorem dX9_burnsOf_83 : decode cX9_burnsOf 83 = .ok (.getfield 7, 3) := by decide +kernel
theorem dX9_burnsOf_86 : decode cX9_burnsOf 86 = .ok (.iconst 1, 1) := by decide +kernel
theorem dX9_burnsOf_87 : decode cX9_burnsOf 87 = .ok (.iaload, 1) := by decide +kernel
theorem dX9_burnsOf_88 : decode cX9_burnsOf 88 = .ok (.iconst 5, 1) := by decide +kernel
theorem dX9_burnsOf_89 : decode cX9_burnsOf 89 = .ok (.irem, 1) := by decide +kernel
theorem dX9_burnsOf_90 : decode cX9_burnsOf 90 = .ok (.iadd, 1) := by decide +kernel
theorem dX9_burnsOf_91 : decode cX9_burnsOf 91 = .ok (.ireturn, 1) := by decide +kernel
theorem dX9_burnsOf_92 : decode cX9_burnsOf 92 = .ok (.iconst 4, 1) := by decide +kernel
theorem dX9_burnsOf_93 : decode cX9_burnsOf 93 = .ok (.aload_n 0, 1) := by decide +kernel
theorem dX9_burnsOf_94 : decode cX9_burnsOf 94 = .ok (.iload_n 1, 1) := by decide +kernel
theorem dX9_burnsOf_95 : decode cX9_burnsOf 95 = .ok (.iconst 3, 1) := by decide +kernel
theorem dX9_burnsOf_96 : decode cX9_burnsOf 96 = .ok (.invokevirtual 120, 3) := by decide +kernel
theorem dX9_burnsOf_99 : decode cX9_burnsOf 99 = .ok (.bipush 10, 2) := by decide +kernel
theorem dX9_burnsOf_101 : decode cX9_burnsOf 101 = .ok (.idiv, 1) := by decide +kernel
theorem dX9_burnsOf_102 : decode cX9_burnsOf 102 = .ok (.iadd, 1) := by decide +kernel
theorem dX9_burnsOf_103 : decode cX9_burnsOf 103 = .ok (.ireturn, 1) := by decide +kernel
theorem dX9_burnsOf_104 : decode cX9_burnsOf 104 = .ok (.iload_n 3, 1) := by decide +kernel
theorem dX9_burnsOf_105 : decode cX9_burnsOf 105 = .ok (.ireturn, 1) := by decide +kernel
theorem dX9_smokeOf_0 : decode cX9_smokeOf 0 = .ok (.aload_n 0, 1) := by decide +kernel
theorem dX9_smokeOf_1 : decode cX9_smokeOf 1 = .ok (.getfield 7, 3) := by decide +kernel
theorem dX9_smokeOf_4 : decode cX9_smokeOf 4 = .ok (.iconst 0, 1) := by decide +kernel
theorem dX9_smokeOf_5 : decode cX9_smokeOf 5 = .ok (.iaload, 1) := by decide +kernel
theorem dX9_smokeOf_6 : decode cX9_smokeOf 6 = .ok (.iconst 3, 1) := by decide +kernel
theorem dX9_smokeOf_7 : decode cX9_smokeOf 7 = .ok (.idiv, 1) := by decide +kernel
theorem dX9_smokeOf_8 : decode cX9_smokeOf 8 = .ok (.istore_n 3, 1) := by decide +kernel
theorem dX9_smokeOf_9 : decode cX9_smokeOf 9 = .ok (.iload_n 2, 1) := by decide +kernel
theorem dX9_smokeOf_10 : decode cX9_smokeOf 10 = .ok (.iconst 2, 1) := by decide +kernel
theorem dX9_smokeOf_11 : decode cX9_smokeOf 11 = .ok (.if_icmp .le 7, 3) := by decide +kernel
theorem dX9_smokeOf_14 : decode cX9_smokeOf 14 = .ok (.iconst 3, 1) := by decide +kernel
theorem dX9_smokeOf_15 : decode cX9_smokeOf 15 = .ok (.goto 4, 3) := by decide +kernel
theorem dX9_smokeOf_18 : decode cX9_smokeOf 18 = .ok (.iconst 0, 1) := by decide +kernel
theorem dX9_smokeOf_19 : decode cX9_smokeOf 19 = .ok (.istore 4, 2) := by decide +kernel
theorem dX9_smokeOf_21 : decode cX9_smokeOf 21 = .ok (.aload_n 0, 1) := by decide +kernel
theorem dX9_smokeOf_22 : decode cX9_smokeOf 22 = .ok (.iload_n 1, 1) := by decide +kernel
theorem dX9_smokeOf_23 : decode cX9_smokeOf 23 = .ok (.iconst 0, 1) := by decide +kernel
theorem dX9_smokeOf_24 : decode cX9_smokeOf 24 = .ok (.invokevirtual 120, 3) := by decide +kernel
theorem dX9_smokeOf_27 : decode cX9_smokeOf 27 = .ok (.tableswitch 69 1 6 #[37, 42, 44, 55, 62, 42], 37) := by decide +kernel
theorem dX9_smokeOf_64 : decode cX9_smokeOf 64 = .ok (.iload_n 3, 1) := by decide +kernel
theorem dX9_smokeOf_65 : decode cX9_smokeOf 65 = .ok (.iload 4, 2) := by decide +kernel
theorem dX9_smokeOf_67 : decode cX9_smokeOf 67 = .ok (.iadd, 1) := by decide +kernel
theorem dX9_smokeOf_68 : decode cX9_smokeOf 68 = .ok (.ireturn, 1) := by decide +kernel
theorem dX9_smokeOf_69 : decode cX9_smokeOf 69 = .ok (.iconst 0, 1) := by decide +kernel
theorem dX9_smokeOf_70 : decode cX9_smokeOf 70 = .ok (.ireturn, 1) := by decide +kernel
theorem dX9_smokeOf_71 : decode cX9_smokeOf 71 = .ok (.iload_n 3, 1) := by decide +kernel
theorem dX9_smokeOf_72 : decode cX9_smokeOf 72 = .ok (.aload_n 0, 1) := by decide +kernel
theorem dX9_smokeOf_73 : decode cX9_smokeOf 73 = .ok (.iload_n 1, 1) := by decide +kernel
theorem dX9_smokeOf_74 : decode cX9_smokeOf 74 = .ok (.iconst 1, 1) := by decide +kernel
theorem dX9_smokeOf_75 : decode cX9_smokeOf 75 = .ok (.invokevirtual 120, 3) := by decide +kernel
theorem dX9_smokeOf_78 : decode cX9_smokeOf 78 = .ok (.iadd, 1) := by decide +kernel
theorem dX9_smokeOf_79 : decode cX9_smokeOf 79 = .ok (.iconst 2, 1) := by decide +kernel
theorem dX9_smokeOf_80 : decode cX9_smokeOf 80 = .ok (.iadd, 1) := by decide +kernel
theorem dX9_smokeOf_81 : decode cX9_smokeOf 81 = .ok (.ireturn, 1) := by decide +kernel
theorem dX9_smokeOf_82 : decode cX9_smokeOf 82 = .ok (.iload_n 3, 1) := by decide +kernel
theorem dX9_smokeOf_83 : decode cX9_smokeOf 83 = .ok (.iload 4, 2) := by decide +kernel
theorem dX9_smokeOf_85 : decode cX9_smokeOf 85 = .ok (.iadd, 1) := by decide +kernel
theorem dX9_smokeOf_86 : decode cX9_smokeOf 86 = .ok (.iload_n 2, 1) := by decide +kernel
theorem dX9_smokeOf_87 : decode cX9_smokeOf 87 = .ok (.iadd, 1) := by decide +kernel
theorem dX9_smokeOf_88 : decode cX9_smokeOf 88 = .ok (.ireturn, 1) := by decide +kernel
theorem dX9_smokeOf_89 : decode cX9_smokeOf 89 = .ok (.aload_n 0, 1) := by decide +kernel
theorem dX9_smokeOf_90 : decode cX9_smokeOf 90 = .ok (.getfield 7, 3) := by decide +kernel
theorem dX9_smokeOf_93 : decode cX9_smokeOf 93 = .ok (.iconst 0, 1) := by decide +kernel
theorem dX9_smokeOf_94 : decode cX9_smokeOf 94 = .ok (.iaload, 1) := by decide +kernel
theorem dX9_smokeOf_95 : decode cX9_smokeOf 95 = .ok (.ireturn, 1) := by decide +kernel
theorem dX9_smokeOf_96 : decode cX9_smokeOf 96 = .ok (.iload_n 3, 1) := by decide +kernel
theorem dX9_smokeOf_97 : decode cX9_smokeOf 97 = .ok (.ireturn, 1) := by decide +kernel
theorem dX9_lightTold_0 : decode cX9_lightTold 0 = .ok (.aload_n 0, 1) := by decide +kernel
theorem dX9_lightTold_1 : decode cX9_lightTold 1 = .ok (.getfield 29, 3) := by decide +kernel
theorem dX9_lightTold_4 : decode cX9_lightTold 4 = .ok (.bipush 108, 2) := by decide +kernel
theorem dX9_lightTold_6 : decode cX9_lightTold 6 = .ok (.iload_n 1, 1) := by decide +kernel
theorem dX9_lightTold_7 : decode cX9_lightTold 7 = .ok (.iastore, 1) := by decide +kernel
theorem dX9_lightTold_8 : decode cX9_lightTold 8 = .ok (.aload_n 0, 1) := by decide +kernel
theorem dX9_lightTold_9 : decode cX9_lightTold 9 = .ok (.getfield 29, 3) := by decide +kernel
theorem dX9_lightTold_12 : decode cX9_lightTold 12 = .ok (.bipush 111, 2) := by decide +kernel
theorem dX9_lightTold_14 : decode cX9_lightTold 14 = .ok (.iload_n 2, 1) := by decide +kernel
theorem dX9_lightTold_15 : decode cX9_lightTold 15 = .ok (.iastore, 1) := by decide +kernel
theorem dX9_lightTold_16 : decode cX9_lightTold 16 = .ok (.aload_n 0, 1) := by decide +kernel
theorem dX9_lightTold_17 : decode cX9_lightTold 17 = .ok (.getfield 29, 3) := by decide +kernel
theorem dX9_lightTold_20 : decode cX9_lightTold 20 = .ok (.bipush 110, 2) := by decide +kernel
theorem dX9_lightTold_22 : decode cX9_lightTold 22 = .ok (.iload_n 3, 1) := by decide +kernel
theorem dX9_lightTold_23 : decode cX9_lightTold 23 = .ok (.iastore, 1) := by decide +kernel
theorem dX9_lightTold_24 : decode cX9_lightTold 24 = .ok (.aload_n 0, 1) := by decide +kernel
theorem dX9_lightTold_25 : decode cX9_lightTold 25 = .ok (.iconst 0, 1) := by decide +kernel
theorem dX9_lightTold_26 : decode cX9_lightTold 26 = .ok (.invokevirtual 113, 3) := by decide +kernel
theorem dX9_lightTold_29 : decode cX9_lightTold 29 = .ok (.ifCond .eq 11, 3) := by decide +kernel
theorem dX9_lightTold_32 : decode cX9_lightTold 32 = .ok (.aload_n 0, 1) := by decide +kernel
theorem dX9_lightTold_33 : decode cX9_lightTold 33 = .ok (.iconst 0, 1) := by decide +kernel
theorem dX9_lightTold_34 : decode cX9_lightTold 34 = .ok (.invokevirtual 124, 3) := by decide +kernel
theorem dX9_lightTold_37 : decode cX9_lightTold 37 = .ok (.goto 4, 3) := by decide +kernel
theorem dX9_lightTold_40 : decode cX9_lightTold 40 = .ok (.iload_n 1, 1) := by decide +kernel
theorem dX9_lightTold_41 : decode cX9_lightTold 41 = .ok (.iconst 0, 1) := by decide +kernel
theorem dX9_lightTold_42 : decode cX9_lightTold 42 = .ok (.bipush 99, 2) := by decide +kernel
theorem dX9_lightTold_44 : decode cX9_lightTold 44 = .ok (.invokestatic 127, 3) := by decide +kernel
theorem dX9_lightTold_47 : decode cX9_lightTold 47 = .ok (.ireturn, 1) := by decide +kernel
theorem dX9_wantedTold_0 : decode cX9_wantedTold 0 = .ok (.aload_n 0, 1) := by decide +kernel
theorem dX9_wantedTold_1 : decode cX9_wantedTold 1 = .ok (.getfield 29, 3) := by decide +kernel
theorem dX9_wantedTold_4 : decode cX9_wantedTold 4 = .ok (.bipush 119, 2) := by decide +kernel
theorem dX9_wantedTold_6 : decode cX9_wantedTold 6 = .ok (.iload_n 1, 1) := by decide +kernel
theorem dX9_wantedTold_7 : decode cX9_wantedTold 7 = .ok (.iastore, 1) := by decide +kernel
theorem dX9_wantedTold_8 : decode cX9_wantedTold 8 = .ok (.aload_n 0, 1) := by decide +kernel
theorem dX9_wantedTold_9 : decode cX9_wantedTold 9 = .ok (.getfield 29, 3) := by decide +kernel
theorem dX9_wantedTold_12 : decode cX9_wantedTold 12 = .ok (.bipush 100, 2) := by decide +kernel
theorem dX9_wantedTold_14 : decode cX9_wantedTold 14 = .ok (.iload_n 2, 1) := by decide +kernel
theorem dX9_wantedTold_15 : decode cX9_wantedTold 15 = .ok (.iastore, 1) := by decide +kernel
theorem dX9_wantedTold_16 : decode cX9_wantedTold 16 = .ok (.aload_n 0, 1) := by decide +kernel
theorem dX9_wantedTold_17 : decode cX9_wantedTold 17 = .ok (.getfield 29, 3) := by decide +kernel
theorem dX9_wantedTold_20 : decode cX9_wantedTold 20 = .ok (.bipush 107, 2) := by decide +kernel
theorem dX9_wantedTold_22 : decode cX9_wantedTold 22 = .ok (.iload_n 3, 1) := by decide +kernel
theorem dX9_wantedTold_23 : decode cX9_wantedTold 23 = .ok (.iastore, 1) := by decide +kernel
theorem dX9_wantedTold_24 : decode cX9_wantedTold 24 = .ok (.aload_n 0, 1) := by decide +kernel
theorem dX9_wantedTold_25 : decode cX9_wantedTold 25 = .ok (.iconst 1, 1) := by decide +kernel
theorem dX9_wantedTold_26 : decode cX9_wantedTold 26 = .ok (.invokevirtual 113, 3) := by decide +kernel
theorem dX9_wantedTold_29 : decode cX9_wantedTold 29 = .ok (.ifCond .eq 11, 3) := by decide +kernel
theorem dX9_wantedTold_32 : decode cX9_wantedTold 32 = .ok (.aload_n 0, 1) := by decide +kernel
theorem dX9_wantedTold_33 : decode cX9_wantedTold 33 = .ok (.iconst 1, 1) := by decide +kernel
theorem dX9_wantedTold_34 : decode cX9_wantedTold 34 = .ok (.invokevirtual 124, 3) := by decide +kernel
theorem dX9_wantedTold_37 : decode cX9_wantedTold 37 = .ok (.goto 8, 3) := by decide +kernel
theorem dX9_wantedTold_40 : decode cX9_wantedTold 40 = .ok (.iconst 5, 1) := by decide +kernel
theorem dX9_wantedTold_41 : decode cX9_wantedTold 41 = .ok (.iconst 3, 1) := by decide +kernel
theorem dX9_wantedTold_42 : decode cX9_wantedTold 42 = .ok (.iload_n 1, 1) := by decide +kernel
theorem dX9_wantedTold_43 : decode cX9_wantedTold 43 = .ok (.imul, 1) := by decide +kernel
theorem dX9_wantedTold_44 : decode cX9_wantedTold 44 = .ok (.iadd, 1) := by decide +kernel
theorem dX9_wantedTold_45 : decode cX9_wantedTold 45 = .ok (.iconst 0, 1) := by decide +kernel
theorem dX9_wantedTold_46 : decode cX9_wantedTold 46 = .ok (.sipush 199, 3) := by decide +kernel
theorem dX9_wantedTold_49 : decode cX9_wantedTold 49 = .ok (.invokestatic 127, 3) := by decide +kernel
theorem dX9_wantedTold_52 : decode cX9_wantedTold 52 = .ok (.ireturn, 1) := by decide +kernel
theorem dX9_lightBy_0 : decode cX9_lightBy 0 = .ok (.iload_n 2, 1) := by decide +kernel
theorem dX9_lightBy_1 : decode cX9_lightBy 1 = .ok (.invokestatic 130, 3) := by decide +kernel
theorem dX9_lightBy_4 : decode cX9_lightBy 4 = .ok (.istore_n 3, 1) := by decide +kernel
theorem dX9_lightBy_5 : decode cX9_lightBy 5 = .ok (.aload_n 0, 1) := by decide +kernel
theorem dX9_lightBy_6 : decode cX9_lightBy 6 = .ok (.aload_n 0, 1) := by decide +kernel
theorem dX9_lightBy_7 : decode cX9_lightBy 7 = .ok (.iload_n 1, 1) := by decide +kernel
theorem dX9_lightBy_8 : decode cX9_lightBy 8 = .ok (.iload_n 3, 1) := by decide +kernel
theorem dX9_lightBy_9 : decode cX9_lightBy 9 = .ok (.invokevirtual 133, 3) := by decide +kernel
theorem dX9_lightBy_12 : decode cX9_lightBy 12 = .ok (.iload_n 3, 1) := by decide +kernel
theorem dX9_lightBy_13 : decode cX9_lightBy 13 = .ok (.aload_n 0, 1) := by decide +kernel
theorem dX9_lightBy_14 : decode cX9_lightBy 14 = .ok (.getfield 7, 3) := by decide +kernel
theorem dX9_lightBy_17 : decode cX9_lightBy 17 = .ok (.iconst 1, 1) := by decide +kernel
theorem dX9_lightBy_18 : decode cX9_lightBy 18 = .ok (.iaload, 1) := by decide +kernel
theorem dX9_lightBy_19 : decode cX9_lightBy 19 = .ok (.bipush 7, 2) := by decide +kernel
theorem dX9_lightBy_21 : decode cX9_lightBy 21 = .ok (.irem, 1) := by decide +kernel
theorem dX9_lightBy_22 : decode cX9_lightBy 22 = .ok (.invokevirtual 136, 3) := by decide +kernel
theorem dX9_lightBy_25 : decode cX9_lightBy 25 = .ok (.ireturn, 1) := by decide +kernel
theorem dX9_givesBy_0 : decode cX9_givesBy 0 = .ok (.aload_n 0, 1) := by decide +kernel
theorem dX9_givesBy_1 : decode cX9_givesBy 1 = .ok (.iload_n 1, 1) := by decide +kernel
theorem dX9_givesBy_2 : decode cX9_givesBy 2 = .ok (.iload_n 2, 1) := by decide +kernel
theorem dX9_givesBy_3 : decode cX9_givesBy 3 = .ok (.invokevirtual 139, 3) := by decide +kernel
theorem dX9_givesBy_6 : decode cX9_givesBy 6 = .ok (.aload_n 0, 1) := by decide +kernel
theorem dX9_givesBy_7 : decode cX9_givesBy 7 = .ok (.iload_n 1, 1) := by decide +kernel
theorem dX9_givesBy_8 : decode cX9_givesBy 8 = .ok (.iload_n 2, 1) := by decide +kernel
theorem dX9_givesBy_9 : decode cX9_givesBy 9 = .ok (.invokestatic 130, 3) := by decide +kernel
theorem dX9_givesBy_12 : decode cX9_givesBy 12 = .ok (.invokevirtual 142, 3) := by decide +kernel
theorem dX9_givesBy_15 : decode cX9_givesBy 15 = .ok (.isub, 1) := by decide +kernel
theorem dX9_givesBy_16 : decode cX9_givesBy 16 = .ok (.ireturn, 1) := by decide +kernel
theorem dX9_wanted_0 : decode cX9_wanted 0 = .ok (.iconst 0, 1) := by decide +kernel
theorem dX9_wanted_1 : decode cX9_wanted 1 = .ok (.istore_n 1, 1) := by decide +kernel
theorem dX9_wanted_2 : decode cX9_wanted 2 = .ok (.iconst 0, 1) := by decide +kernel
theorem dX9_wanted_3 : decode cX9_wanted 3 = .ok (.istore_n 2, 1) := by decide +kernel
theorem dX9_wanted_4 : decode cX9_wanted 4 = .ok (.iload_n 2, 1) := by decide +kernel
theorem dX9_wanted_5 : decode cX9_wanted 5 = .ok (.aload_n 0, 1) := by decide +kernel
theorem dX9_wanted_6 : decode cX9_wanted 6 = .ok (.getfield 7, 3) := by decide +kernel
theorem dX9_wanted_9 : decode cX9_wanted 9 = .ok (.bipush 6, 2) := by decide +kernel
theorem dX9_wanted_11 : decode cX9_wanted 11 = .ok (.iaload, 1) := by decide +kernel
theorem dX9_wanted_12 : decode cX9_wanted 12 = .ok (.if_icmp .ge 31, 3) := by decide +kernel
theorem dX9_wanted_15 : decode cX9_wanted 15 = .ok (.iload_n 1, 1) := by decide +kernel
theorem dX9_wanted_16 : decode cX9_wanted 16 = .ok (.aload_n 0, 1) := by decide +kernel
theorem dX9_wanted_17 : decode cX9_wanted 17 = .ok (.iload_n 2, 1) := by decide +kernel
theorem dX9_wanted_18 : decode cX9_wanted 18 = .ok (.iconst 3, 1) := by decide +kernel
theorem dX9_wanted_19 : decode cX9_wanted 19 = .ok (.invokevirtual 120, 3) := by decide +kernel
theorem dX9_wanted_22 : decode cX9_wanted 22 = .ok (.ifCond .le 12, 3) := by decide +kernel
theorem dX9_wanted_25 : decode cX9_wanted 25 = .ok (.aload_n 0, 1) := by decide +kernel
theorem dX9_wanted_26 : decode cX9_wanted 26 = .ok (.iload_n 2, 1) := by decide +kernel
theorem dX9_wanted_27 : decode cX9_wanted 27 = .ok (.iconst 2, 1) := by decide +kernel
theorem dX9_wanted_28 : decode cX9_wanted 28 = .ok (.invokevirtual 120, 3) := by decide +kernel
theorem dX9_wanted_31 : decode cX9_wanted 31 = .ok (.goto 4, 3) := by decide +kernel
theorem dX9_wanted_34 : decode cX9_wanted 34 = .ok (.iconst 0, 1) := by decide +kernel
theorem dX9_wanted_35 : decode cX9_wanted 35 = .ok (.ior, 1) := by decide +kernel
theorem dX9_wanted_36 : decode cX9_wanted 36 = .ok (.istore_n 1, 1) := by decide +kernel
theorem dX9_wanted_37 : decode cX9_wanted 37 = .ok (.iinc 2 1, 3) := by decide +kernel
theorem dX9_wanted_40 : decode cX9_wanted 40 = .ok (.goto (-36), 3) := by decide +kernel
theorem dX9_wanted_43 : decode cX9_wanted 43 = .ok (.aload_n 0, 1) := by decide +kernel
theorem dX9_wanted_44 : decode cX9_wanted 44 = .ok (.aload_n 0, 1) := by decide +kernel
theorem dX9_wanted_45 : decode cX9_wanted 45 = .ok (.getfield 7, 3) := by decide +kernel
theorem dX9_wanted_48 : decode cX9_wanted 48 = .ok (.iconst 0, 1) := by decide +kernel
theorem dX9_wanted_49 : decode cX9_wanted 49 = .ok (.iaload, 1) := by decide +kernel
theorem dX9_wanted_50 : decode cX9_wanted 50 = .ok (.aload_n 0, 1) := by decide +kernel
theorem dX9_wanted_51 : decode cX9_wanted 51 = .ok (.getfield 7, 3) := by decide +kernel
theorem dX9_wanted_54 : decode cX9_wanted 54 = .ok (.iconst 1, 1) := by decide +kernel
theorem dX9_wanted_55 : decode cX9_wanted 55 = .ok (.iaload, 1) := by decide +kernel
theorem dX9_wanted_56 : decode cX9_wanted 56 = .ok (.bipush 7, 2) := by decide +kernel
theorem dX9_wanted_58 : decode cX9_wanted 58 = .ok (.irem, 1) := by decide +kernel
theorem dX9_wanted_59 : decode cX9_wanted 59 = .ok (.iload_n 1, 1) := by decide +kernel
theorem dX9_wanted_60 : decode cX9_wanted 60 = .ok (.invokestatic 130, 3) := by decide +kernel
theorem dX9_wanted_63 : decode cX9_wanted 63 = .ok (.invokevirtual 145, 3) := by decide +kernel
theorem dX9_wanted_66 : decode cX9_wanted 66 = .ok (.ireturn, 1) := by decide +kernel
theorem dX9_tonightSet_0 : decode cX9_tonightSet 0 = .ok (.iconst 0, 1) := by decide +kernel
theorem dX9_tonightSet_1 : decode cX9_tonightSet 1 = .ok (.istore_n 1, 1) := by decide +kernel
theorem dX9_tonightSet_2 : decode cX9_tonightSet 2 = .ok (.iconst 0, 1) := by decide +kernel
theorem dX9_tonightSet_3 : decode cX9_tonightSet 3 = .ok (.istore_n 2, 1) := by decide +kernel
theorem dX9_tonightSet_4 : decode cX9_tonightSet 4 = .ok (.iload_n 2, 1) := by decide +kernel
theorem dX9_tonightSet_5 : decode cX9_tonightSet 5 = .ok (.aload_n 0, 1) := by decide +kernel
theorem dX9_tonightSet_6 : decode cX9_tonightSet 6 = .ok (.getfield 7, 3) := by decide +kernel
theorem dX9_tonightSet_9 : decode cX9_tonightSet 9 = .ok (.bipush 6, 2) := by decide +kernel
theorem dX9_tonightSet_11 : decode cX9_tonightSet 11 = .ok (.iaload, 1) := by decide +kernel
theorem dX9_tonightSet_12 : decode cX9_tonightSet 12 = .ok (.if_icmp .ge 36, 3) := by decide +kernel
theorem dX9_tonightSet_15 : decode cX9_tonightSet 15 = .ok (.iload_n 1, 1) := by decide +kernel
theorem dX9_tonightSet_16 : decode cX9_tonightSet 16 = .ok (.aload_n 0, 1) := by decide +kernel
theorem dX9_tonightSet_17 : decode cX9_tonightSet 17 = .ok (.iload_n 2, 1) := by decide +kernel
theorem dX9_tonightSet_18 : decode cX9_tonightSet 18 = .ok (.iconst 3, 1) := by decide +kernel
theorem dX9_tonightSet_19 : decode cX9_tonightSet 19 = .ok (.invokevirtual 120, 3) := by decide +kernel
theorem dX9_tonightSet_22 : decode cX9_tonightSet 22 = .ok (.ifCond .le 17, 3) := by decide +kernel
theorem dX9_tonightSet_25 : decode cX9_tonightSet 25 = .ok (.iload_n 2, 1) := by decide +kernel
theorem dX9_tonightSet_26 : decode cX9_tonightSet 26 = .ok (.aload_n 0, 1) := by decide +kernel
theorem dX9_tonightSet_27 : decode cX9_tonightSet 27 = .ok (.getfield 22, 3) := by decide +kernel
theorem dX9_tonightSet_30 : decode cX9_tonightSet 30 = .ok (.if_icmp .eq 9, 3) := by decide +kernel
theorem dX9_tonightSet_33 : decode cX9_tonightSet 33 = .ok (.iconst 1, 1) := by decide +kernel
theorem dX9_tonightSet_34 : decode cX9_tonightSet 34 = .ok (.iload_n 2, 1) := by decide +kernel
theorem dX9_tonightSet_35 : decode cX9_tonightSet 35 = .ok (.ishl, 1) := by decide +kernel
theorem dX9_tonightSet_36 : decode cX9_tonightSet 36 = .ok (.goto 4, 3) := by decide +kernel
theorem dX9_tonightSet_39 : decode cX9_tonightSet 39 = .ok (.iconst 0, 1) := by decide +kernel
theorem dX9_tonightSet_40 : decode cX9_tonightSet 40 = .ok (.ior, 1) := by decide +kernel
theorem dX9_tonightSet_41 : decode cX9_tonightSet 41 = .ok (.istore_n 1, 1) := by decide +kernel
theorem dX9_tonightSet_42 : decode cX9_tonightSet 42 = .ok (.iinc 2 1, 3) := by decide +kernel
theorem dX9_tonightSet_45 : decode cX9_tonightSet 45 = .ok (.goto (-41), 3) := by decide +kernel
theorem dX9_tonightSet_48 : decode cX9_tonightSet 48 = .ok (.aload_n 0, 1) := by decide +kernel
theorem dX9_tonightSet_49 : decode cX9_tonightSet 49 = .ok (.invokevirtual 148, 3) := by decide +kernel
theorem dX9_tonightSet_52 : decode cX9_tonightSet 52 = .ok (.istore_n 2, 1) := by decide +kernel
theorem dX9_tonightSet_53 : decode cX9_tonightSet 53 = .ok (.iconst 0, 1) := by decide +kernel
theorem dX9_tonightSet_54 : decode cX9_tonightSet 54 = .ok (.istore_n 3, 1) := by decide +kernel
theorem dX9_tonightSet_55 : decode cX9_tonightSet 55 = .ok (.iload_n 3, 1) := by decide +kernel
theorem dX9_tonightSet_56 : decode cX9_tonightSet 56 = .ok (.aload_n 0, 1) := by decide +kernel
theorem dX9_tonightSet_57 : decode cX9_tonightSet 57 = .ok (.getfield 7, 3) := by decide +kernel
theorem dX9_tonightSet_60 : decode cX9_tonightSet 60 = .ok (.bipush 6, 2) := by decide +kernel
theorem dX9_tonightSet_62 : decode cX9_tonightSet 62 = .ok (.iaload, 1) := by decide +kernel
theorem dX9_tonightSet_63 : decode cX9_tonightSet 63 = .ok (.if_icmp .ge 98, 3) := by decide +kernel
theorem dX9_tonightSet_66 : decode cX9_tonightSet 66 = .ok (.iload_n 1, 1) := by decide +kernel
theorem dX9_tonightSet_67 : decode cX9_tonightSet 67 = .ok (.iload_n 3, 1) := by decide +kernel
theorem dX9_tonightSet_68 : decode cX9_tonightSet 68 = .ok (.ishr, 1) := by decide +kernel
theorem dX9_tonightSet_69 : decode cX9_tonightSet 69 = .ok (.iconst 1, 1) := by decide +kernel
theorem dX9_tonightSet_70 : decode cX9_tonightSet 70 = .ok (.iand, 1) := by decide +kernel
theorem dX9_tonightSet_71 : decode cX9_tonightSet 71 = .ok (.iconst 1, 1) := by decide +kernel
theorem dX9_tonightSet_72 : decode cX9_tonightSet 72 = .ok (.if_icmp .ne 17, 3) := by decide +kernel
theorem dX9_tonightSet_75 : decode cX9_tonightSet 75 = .ok (.aload_n 0, 1) := by decide +kernel
theorem dX9_tonightSet_76 : decode cX9_tonightSet 76 = .ok (.iload_n 3, 1) := by decide +kernel
theorem dX9_tonightSet_77 : decode cX9_tonightSet 77 = .ok (.aload_n 0, 1) := by decide +kernel
theorem dX9_tonightSet_78 : decode cX9_tonightSet 78 = .ok (.iload_n 3, 1) := by decide +kernel
theorem dX9_tonightSet_79 : decode cX9_tonightSet 79 = .ok (.iconst 2, 1) := by decide +kernel
theorem dX9_tonightSet_80 : decode cX9_tonightSet 80 = .ok (.invokevirtual 120, 3) := by decide +kernel
theorem dX9_tonightSet_83 : decode cX9_tonightSet 83 = .ok (.invokevirtual 151, 3) := by decide +kernel
theorem dX9_tonightSet_86 : decode cX9_tonightSet 86 = .ok (.goto 4, 3) := by decide +kernel
theorem dX9_tonightSet_89 : decode cX9_tonightSet 89 = .ok (.iconst 0, 1) := by decide +kernel
theorem dX9_tonightSet_90 : decode cX9_tonightSet 90 = .ok (.istore 4, 2) := by decide +kernel
theorem dX9_tonightSet_92 : decode cX9_tonightSet 92 = .ok (.iconst 0, 1) := by decide +kernel
theorem dX9_tonightSet_93 : decode cX9_tonightSet 93 = .ok (.istore 5, 2) := by decide +kernel
theorem dX9_tonightSet_95 : decode cX9_tonightSet 95 = .ok (.iload 5, 2) := by decide +kernel
theorem dX9_tonightSet_97 : decode cX9_tonightSet 97 = .ok (.iconst 1, 1) := by decide +kernel
theorem dX9_tonightSet_98 : decode cX9_tonightSet 98 = .ok (.iload_n 3, 1) := by decide +kernel
theorem dX9_tonightSet_99 : decode cX9_tonightSet 99 = .ok (.ishl, 1) := by decide +kernel
theorem dX9_tonightSet_100 : decode cX9_tonightSet 100 = .ok (.if_icmp .ge 55, 3) := by decide +kernel
theorem dX9_tonightSet_103 : decode cX9_tonightSet 103 = .ok (.aload_n 0, 1) := by decide +kernel
theorem dX9_tonightSet_104 : decode cX9_tonightSet 104 = .ok (.getfield 35, 3) := by decide +kernel
theorem dX9_tonightSet_107 : decode cX9_tonightSet 107 = .ok (.iload 5, 2) := by decide +kernel
theorem dX9_tonightSet_109 : decode cX9_tonightSet 109 = .ok (.iconst 1, 1) := by decide +kernel
theorem dX9_tonightSet_110 : decode cX9_tonightSet 110 = .ok (.iload_n 3, 1) := by decide +kernel
theorem dX9_tonightSet_111 : decode cX9_tonightSet 111 = .ok (.ishl, 1) := by decide +kernel
theorem dX9_tonightSet_112 : decode cX9_tonightSet 112 = .ok (.iadd, 1) := by decide +kernel
theorem dX9_tonightSet_113 : decode cX9_tonightSet 113 = .ok (.aload_n 0, 1) := by decide +kernel
theorem dX9_tonightSet_114 : decode cX9_tonightSet 114 = .ok (.getfield 35, 3) := by decide +kernel
theorem dX9_tonightSet_117 : decode cX9_tonightSet 117 = .ok (.iload 5, 2) := by decide +kernel
theorem dX9_tonightSet_119 : decode cX9_tonightSet 119 = .ok (.iaload, 1) := by decide +kernel
theorem dX9_tonightSet_120 : decode cX9_tonightSet 120 = .ok (.iload 4, 2) := by decide +kernel
theorem dX9_tonightSet_122 : decode cX9_tonightSet 122 = .ok (.iadd, 1) := by decide +kernel
theorem dX9_tonightSet_123 : decode cX9_tonightSet 123 = .ok (.iastore, 1) := by decide +kernel
theorem dX9_tonightSet_124 : decode cX9_tonightSet 124 = .ok (.aload_n 0, 1) := by decide +kernel
theorem dX9_tonightSet_125 : decode cX9_tonightSet 125 = .ok (.getfield 38, 3) := by decide +kernel
theorem dX9_tonightSet_128 : decode cX9_tonightSet 128 = .ok (.iload 5, 2) := by decide +kernel
theorem dX9_tonightSet_130 : decode cX9_tonightSet 130 = .ok (.iconst 1, 1) := by decide +kernel
theorem dX9_tonightSet_131 : decode cX9_tonightSet 131 = .ok (.iload_n 3, 1) := by decide +kernel
theorem dX9_tonightSet_132 : decode cX9_tonightSet 132 = .ok (.ishl, 1) := by decide +kernel
theorem dX9_tonightSet_133 : decode cX9_tonightSet 133 = .ok (.iadd, 1) := by decide +kernel
theorem dX9_tonightSet_134 : decode cX9_tonightSet 134 = .ok (.aload_n 0, 1) := by decide +kernel
theorem dX9_tonightSet_135 : decode cX9_tonightSet 135 = .ok (.getfield 38, 3) := by decide +kernel
theorem dX9_tonightSet_138 : decode cX9_tonightSet 138 = .ok (.iload 5, 2) := by decide +kernel
theorem dX9_tonightSet_140 : decode cX9_tonightSet 140 = .ok (.iaload, 1) := by decide +kernel
theorem dX9_tonightSet_141 : decode cX9_tonightSet 141 = .ok (.aload_n 0, 1) := by decide +kernel
theorem dX9_tonightSet_142 : decode cX9_tonightSet 142 = .ok (.iload_n 3, 1) := by decide +kernel
theorem dX9_tonightSet_143 : decode cX9_tonightSet 143 = .ok (.iconst 4, 1) := by decide +kernel
theorem dX9_tonightSet_144 : decode cX9_tonightSet 144 = .ok (.invokevirtual 120, 3) := by decide +kernel
theorem dX9_tonightSet_147 : decode cX9_tonightSet 147 = .ok (.iadd, 1) := by decide +kernel
theorem dX9_tonightSet_148 : decode cX9_tonightSet 148 = .ok (.iastore, 1) := by decide +kernel
theorem dX9_tonightSet_149 : decode cX9_tonightSet 149 = .ok (.iinc 5 1, 3) := by decide +kernel
theorem dX9_tonightSet_152 : decode cX9_tonightSet 152 = .ok (.goto (-57), 3) := by decide +kernel
theorem dX9_tonightSet_155 : decode cX9_tonightSet 155 = .ok (.iinc 3 1, 3) := by decide +kernel
theorem dX9_tonightSet_158 : decode cX9_tonightSet 158 = .ok (.goto (-103), 3) := by decide +kernel
theorem dX9_tonightSet_161 : decode cX9_tonightSet 161 = .ok (.iconst (-1), 1) := by decide +kernel
theorem dX9_tonightSet_162 : decode cX9_tonightSet 162 = .ok (.istore_n 3, 1) := by decide +kernel
theorem dX9_tonightSet_163 : decode cX9_tonightSet 163 = .ok (.iconst 0, 1) := by decide +kernel
theorem dX9_tonightSet_164 : decode cX9_tonightSet 164 = .ok (.istore 4, 2) := by decide +kernel
theorem dX9_tonightSet_166 : decode cX9_tonightSet 166 = .ok (.iload 4, 2) := by decide +kernel
theorem dX9_tonightSet_168 : decode cX9_tonightSet 168 = .ok (.iconst 1, 1) := by decide +kernel
theorem dX9_tonightSet_169 : decode cX9_tonightSet 169 = .ok (.aload_n 0, 1) := by decide +kernel
theorem dX9_tonightSet_170 : decode cX9_tonightSet 170 = .ok (.getfield 7, 3) := by decide +kernel
theorem dX9_tonightSet_173 : decode cX9_tonightSet 173 = .ok (.bipush 6, 2) := by decide +kernel
theorem dX9_tonightSet_175 : decode cX9_tonightSet 175 = .ok (.iaload, 1) := by decide +kernel
theorem dX9_tonightSet_176 : decode cX9_tonightSet 176 = .ok (.ishl, 1) := by decide +kernel
theorem dX9_tonightSet_177 : decode cX9_tonightSet 177 = .ok (.if_icmp .ge 69, 3) := by decide +kernel
theorem dX9_tonightSet_180 : decode cX9_tonightSet 180 = .ok (.iload 4, 2) := by decide +kernel
theorem dX9_tonightSet_182 : decode cX9_tonightSet 182 = .ok (.iload_n 1, 1) := by decide +kernel
theorem dX9_tonightSet_183 : decode cX9_tonightSet 183 = .ok (.iconst (-1), 1) := by decide +kernel
theorem dX9_tonightSet_184 : decode cX9_tonightSet 184 = .ok (.ixor, 1) := by decide +kernel
theorem dX9_tonightSet_185 : decode cX9_tonightSet 185 = .ok (.iand, 1) := by decide +kernel
theorem dX9_tonightSet_186 : decode cX9_tonightSet 186 = .ok (.ifCond .ne 18, 3) := by decide +kernel
theorem dX9_tonightSet_189 : decode cX9_tonightSet 189 = .ok (.aload_n 0, 1) := by decide +kernel
theorem dX9_tonightSet_190 : decode cX9_tonightSet 190 = .ok (.getfield 35, 3) := by decide +kernel
theorem dX9_tonightSet_193 : decode cX9_tonightSet 193 = .ok (.iload 4, 2) := by decide +kernel
theorem dX9_tonightSet_195 : decode cX9_tonightSet 195 = .ok (.iaload, 1) := by decide +kernel
theorem dX9_tonightSet_196 : decode cX9_tonightSet 196 = .ok (.iload_n 2, 1) := by decide +kernel
theorem dX9_tonightSet_197 : decode cX9_tonightSet 197 = .ok (.if_icmp .lt 7, 3) := by decide +kernel
theorem dX9_tonightSet_200 : decode cX9_tonightSet 200 = .ok (.iconst 1, 1) := by decide +kernel
theorem dX9_tonightSet_201 : decode cX9_tonightSet 201 = .ok (.goto 4, 3) := by decide +kernel
theorem dX9_tonightSet_204 : decode cX9_tonightSet 204 = .ok (.iconst 0, 1) := by decide +kernel
theorem dX9_tonightSet_205 : decode cX9_tonightSet 205 = .ok (.istore 5, 2) := by decide +kernel
theorem dX9_tonightSet_207 : decode cX9_tonightSet 207 = .ok (.iload 5, 2) := by decide +kernel
theorem dX9_tonightSet_209 : decode cX9_tonightSet 209 = .ok (.ifCond .eq 29, 3) := by decide +kernel
theorem dX9_tonightSet_212 : decode cX9_tonightSet 212 = .ok (.iload_n 3, 1) := by decide +kernel
theorem dX9_tonightSet_213 : decode cX9_tonightSet 213 = .ok (.iconst (-1), 1) := by decide +kernel
theorem dX9_tonightSet_214 : decode cX9_tonightSet 214 = .ok (.if_icmp .eq 19, 3) := by decide +kernel
theorem dX9_tonightSet_217 : decode cX9_tonightSet 217 = .ok (.aload_n 0, 1) := by decide +kernel
theorem dX9_tonightSet_218 : decode cX9_tonightSet 218 = .ok (.getfield 38, 3) := by decide +kernel
theorem dX9_tonightSet_221 : decode cX9_tonightSet 221 = .ok (.iload 4, 2) := by decide +kernel
theorem dX9_tonightSet_223 : decode cX9_tonightSet 223 = .ok (.iaload, 1) := by decide +kernel
theorem dX9_tonightSet_224 : decode cX9_tonightSet 224 = .ok (.aload_n 0, 1) := by decide +kernel
theorem dX9_tonightSet_225 : decode cX9_tonightSet 225 = .ok (.getfield 38, 3) := by decide +kernel
theorem dX9_tonightSet_228 : decode cX9_tonightSet 228 = .ok (.iload_n 3, 1) := by decide +kernel
theorem dX9_tonightSet_229 : decode cX9_tonightSet 229 = .ok (.iaload, 1) := by decide +kernel
theorem dX9_tonightSet_230 : decode cX9_tonightSet 230 = .ok (.if_icmp .ge 8, 3) := by decide +kernel
theorem dX9_tonightSet_233 : decode cX9_tonightSet 233 = .ok (.iload 4, 2) := by decide +kernel
theorem dX9_tonightSet_235 : decode cX9_tonightSet 235 = .ok (.goto 4, 3) := by decide +kernel
theorem dX9_tonightSet_238 : decode cX9_tonightSet 238 = .ok (.iload_n 3, 1) := by decide +kernel
theorem dX9_tonightSet_239 : decode cX9_tonightSet 239 = .ok (.istore_n 3, 1) := by decide +kernel
theorem dX9_tonightSet_240 : decode cX9_tonightSet 240 = .ok (.iinc 4 1, 3) := by decide +kernel
theorem dX9_tonightSet_243 : decode cX9_tonightSet 243 = .ok (.goto (-77), 3) := by decide +kernel
theorem dX9_tonightSet_246 : decode cX9_tonightSet 246 = .ok (.iload_n 3, 1) := by decide +kernel
theorem dX9_tonightSet_247 : decode cX9_tonightSet 247 = .ok (.ireturn, 1) := by decide +kernel
theorem dX9_aNight_0 : decode cX9_aNight 0 = .ok (.aload_n 0, 1) := by decide +kernel
theorem dX9_aNight_1 : decode cX9_aNight 1 = .ok (.invokevirtual 154, 3) := by decide +kernel
theorem dX9_aNight_4 : decode cX9_aNight 4 = .ok (.istore_n 1, 1) := by decide +kernel
theorem dX9_aNight_5 : decode cX9_aNight 5 = .ok (.iconst 0, 1) := by decide +kernel
theorem dX9_aNight_6 : decode cX9_aNight 6 = .ok (.istore_n 2, 1) := by decide +kernel
theorem dX9_aNight_7 : decode cX9_aNight 7 = .ok (.iload_n 2, 1) := by decide +kernel
theorem dX9_aNight_8 : decode cX9_aNight 8 = .ok (.aload_n 0, 1) := by decide +kernel
theorem dX9_aNight_9 : decode cX9_aNight 9 = .ok (.getfield 7, 3) := by decide +kernel
theorem dX9_aNight_12 : decode cX9_aNight 12 = .ok (.bipush 6, 2) := by decide +kernel
theorem dX9_aNight_14 : decode cX9_aNight 14 = .ok (.iaload, 1) := by decide +kernel
theorem dX9_aNight_15 : decode cX9_aNight 15 = .ok (.if_icmp .ge 32, 3) := by decide +kernel
theorem dX9_aNight_18 : decode cX9_aNight 18 = .ok (.iload_n 1, 1) := by decide +kernel
theorem dX9_aNight_19 : decode cX9_aNight 19 = .ok (.iconst (-1), 1) := by decide +kernel
theorem dX9_aNight_20 : decode cX9_aNight 20 = .ok (.if_icmp .eq 27, 3) := by decide +kernel
theorem dX9_aNight_23 : decode cX9_aNight 23 = .ok (.aload_n 0, 1) := by decide +kernel
theorem dX9_aNight_24 : decode cX9_aNight 24 = .ok (.iload_n 2, 1) := by decide +kernel
theorem dX9_aNight_25 : decode cX9_aNight 25 = .ok (.iconst 3, 1) := by decide +kernel
theorem dX9_aNight_26 : decode cX9_aNight 26 = .ok (.aload_n 0, 1) := by decide +kernel
theorem dX9_aNight_27 : decode cX9_aNight 27 = .ok (.iload_n 2, 1) := by decide +kernel
theorem dX9_aNight_28 : decode cX9_aNight 28 = .ok (.iconst 3, 1) := by decide +kernel
theorem dX9_aNight_29 : decode cX9_aNight 29 = .ok (.invokevirtual 120, 3) := by decide +kernel
theorem dX9_aNight_32 : decode cX9_aNight 32 = .ok (.iload_n 1, 1) := by decide +kernel
theorem dX9_aNight_33 : decode cX9_aNight 33 = .ok (.iload_n 2, 1) := by decide +kernel
theorem dX9_aNight_34 : decode cX9_aNight 34 = .ok (.ishr, 1) := by decide +kernel
theorem dX9_aNight_35 : decode cX9_aNight 35 = .ok (.iconst 1, 1) := by decide +kernel
theorem dX9_aNight_36 : decode cX9_aNight 36 = .ok (.iand, 1) := by decide +kernel
theorem dX9_aNight_37 : decode cX9_aNight 37 = .ok (.isub, 1) := by decide +kernel
theorem dX9_aNight_38 : decode cX9_aNight 38 = .ok (.invokevirtual 157, 3) := by decide +kernel
theorem dX9_aNight_41 : decode cX9_aNight 41 = .ok (.iinc 2 1, 3) := by decide +kernel
theorem dX9_aNight_44 : decode cX9_aNight 44 = .ok (.goto (-37), 3) := by decide +kernel
theorem dX9_aNight_47 : decode cX9_aNight 47 = .ok (.iload_n 1, 1) := by decide +kernel
theorem dX9_aNight_48 : decode cX9_aNight 48 = .ok (.iconst (-1), 1) := by decide +kernel
theorem dX9_aNight_49 : decode cX9_aNight 49 = .ok (.if_icmp .ne 24, 3) := by decide +kernel
theorem dX9_aNight_52 : decode cX9_aNight 52 = .ok (.aload_n 0, 1) := by decide +kernel
theorem dX9_aNight_53 : decode cX9_aNight 53 = .ok (.getfield 7, 3) := by decide +kernel
theorem dX9_aNight_56 : decode cX9_aNight 56 = .ok (.iconst 2, 1) := by decide +kernel
theorem dX9_aNight_57 : decode cX9_aNight 57 = .ok (.aload_n 0, 1) := by decide +kernel
theorem dX9_aNight_58 : decode cX9_aNight 58 = .ok (.getfield 7, 3) := by decide +kernel
theorem dX9_aNight_61 : decode cX9_aNight 61 = .ok (.iconst 2, 1) := by decide +kernel
theorem dX9_aNight_62 : decode cX9_aNight 62 = .ok (.iaload, 1) := by decide +kernel
theorem dX9_aNight_63 : decode cX9_aNight 63 = .ok (.iconst 1, 1) := by decide +kernel
theorem dX9_aNight_64 : decode cX9_aNight 64 = .ok (.iadd, 1) := by decide +kernel
theorem dX9_aNight_65 : decode cX9_aNight 65 = .ok (.iconst 0, 1) := by decide +kernel
theorem dX9_aNight_66 : decode cX9_aNight 66 = .ok (.sipush 9999, 3) := by decide +kernel
theorem dX9_aNight_69 : decode cX9_aNight 69 = .ok (.invokestatic 127, 3) := by decide +kernel
theorem dX9_aNight_72 : decode cX9_aNight 72 = .ok (.iastore, 1) := by decide +kernel
theorem dX9_aNight_73 : decode cX9_aNight 73 = .ok (.aload_n 0, 1) := by decide +kernel
theorem dX9_aNight_74 : decode cX9_aNight 74 = .ok (.getfield 7, 3) := by decide +kernel
theorem dX9_aNight_77 : decode cX9_aNight 77 = .ok (.iconst 1, 1) := by decide +kernel
theorem dX9_aNight_78 : decode cX9_aNight 78 = .ok (.dup2, 1) := by decide +kernel
theorem dX9_aNight_79 : decode cX9_aNight 79 = .ok (.iaload, 1) := by decide +kernel
theorem dX9_aNight_80 : decode cX9_aNight 80 = .ok (.iconst 1, 1) := by decide +kernel
theorem dX9_aNight_81 : decode cX9_aNight 81 = .ok (.iadd, 1) := by decide +kernel
theorem dX9_aNight_82 : decode cX9_aNight 82 = .ok (.iastore, 1) := by decide +kernel
theorem dX9_aNight_83 : decode cX9_aNight 83 = .ok (.iload_n 1, 1) := by decide +kernel
theorem dX9_aNight_84 : decode cX9_aNight 84 = .ok (.iconst (-1), 1) := by decide +kernel
theorem dX9_aNight_85 : decode cX9_aNight 85 = .ok (.if_icmp .eq 7, 3) := by decide +kernel
theorem dX9_aNight_88 : decode cX9_aNight 88 = .ok (.iconst 1, 1) := by decide +kernel
theorem dX9_aNight_89 : decode cX9_aNight 89 = .ok (.goto 4, 3) := by decide +kernel
theorem dX9_aNight_92 : decode cX9_aNight 92 = .ok (.iconst 0, 1) := by decide +kernel
theorem dX9_aNight_93 : decode cX9_aNight 93 = .ok (.ireturn, 1) := by decide +kernel
theorem dX9_goes_0 : decode cX9_goes 0 = .ok (.iconst 0, 1) := by decide +kernel
theorem dX9_goes_1 : decode cX9_goes 1 = .ok (.istore_n 2, 1) := by decide +kernel
theorem dX9_goes_2 : decode cX9_goes 2 = .ok (.iconst 0, 1) := by decide +kernel
theorem dX9_goes_3 : decode cX9_goes 3 = .ok (.istore_n 3, 1) := by decide +kernel
theorem dX9_goes_4 : decode cX9_goes 4 = .ok (.iload_n 3, 1) := by decide +kernel
theorem dX9_goes_5 : decode cX9_goes 5 = .ok (.iload_n 1, 1) := by decide +kernel
theorem dX9_goes_6 : decode cX9_goes 6 = .ok (.if_icmp .ge 24, 3) := by decide +kernel
theorem dX9_goes_9 : decode cX9_goes 9 = .ok (.iload_n 2, 1) := by decide +kernel
theorem dX9_goes_10 : decode cX9_goes 10 = .ok (.aload_n 0, 1) := by decide +kernel
theorem dX9_goes_11 : decode cX9_goes 11 = .ok (.invokevirtual 161, 3) := by decide +kernel
theorem dX9_goes_14 : decode cX9_goes 14 = .ok (.ifCond .eq 7, 3) := by decide +kernel
theorem dX9_goes_17 : decode cX9_goes 17 = .ok (.iconst 1, 1) := by decide +kernel
theorem dX9_goes_18 : decode cX9_goes 18 = .ok (.goto 4, 3) := by decide +kernel
theorem dX9_goes_21 : decode cX9_goes 21 = .ok (.iconst 0, 1) := by decide +kernel
theorem dX9_goes_22 : decode cX9_goes 22 = .ok (.iadd, 1) := by decide +kernel
theorem dX9_goes_23 : decode cX9_goes 23 = .ok (.istore_n 2, 1) := by decide +kernel
theorem dX9_goes_24 : decode cX9_goes 24 = .ok (.iinc 3 1, 3) := by decide +kernel
theorem dX9_goes_27 : decode cX9_goes 27 = .ok (.goto (-23), 3) := by decide +kernel
theorem dX9_goes_30 : decode cX9_goes 30 = .ok (.iload_n 2, 1) := by decide +kernel
theorem dX9_goes_31 : decode cX9_goes 31 = .ok (.ireturn, 1) := by decide +kernel
theorem dX9_draw_0 : decode cX9_draw 0 = .ok (.aload_n 0, 1) := by decide +kernel
theorem dX9_draw_1 : decode cX9_draw 1 = .ok (.getfield 7, 3) := by decide +kernel
theorem dX9_draw_4 : decode cX9_draw 4 = .ok (.iconst 3, 1) := by decide +kernel
theorem dX9_draw_5 : decode cX9_draw 5 = .ok (.aload_n 0, 1) := by decide +kernel
theorem dX9_draw_6 : decode cX9_draw 6 = .ok (.getfield 7, 3) := by decide +kernel
theorem dX9_draw_9 : decode cX9_draw 9 = .ok (.iconst 3, 1) := by decide +kernel
theorem dX9_draw_10 : decode cX9_draw 10 = .ok (.iaload, 1) := by decide +kernel
theorem dX9_draw_11 : decode cX9_draw 11 = .ok (.ldc 164, 2) := by decide +kernel
theorem dX9_draw_13 : decode cX9_draw 13 = .ok (.imul, 1) := by decide +kernel
theorem dX9_draw_14 : decode cX9_draw 14 = .ok (.sipush 12345, 3) := by decide +kernel
theorem dX9_draw_17 : decode cX9_draw 17 = .ok (.iadd, 1) := by decide +kernel
theorem dX9_draw_18 : decode cX9_draw 18 = .ok (.iastore, 1) := by decide +kernel
theorem dX9_draw_19 : decode cX9_draw 19 = .ok (.aload_n 0, 1) := by decide +kernel
theorem dX9_draw_20 : decode cX9_draw 20 = .ok (.getfield 7, 3) := by decide +kernel
theorem dX9_draw_23 : decode cX9_draw 23 = .ok (.iconst 3, 1) := by decide +kernel
theorem dX9_draw_24 : decode cX9_draw 24 = .ok (.iaload, 1) := by decide +kernel
theorem dX9_draw_25 : decode cX9_draw 25 = .ok (.bipush 8, 2) := by decide +kernel
theorem dX9_draw_27 : decode cX9_draw 27 = .ok (.iushr, 1) := by decide +kernel
theorem dX9_draw_28 : decode cX9_draw 28 = .ok (.ireturn, 1) := by decide +kernel
theorem dX9_isKind_0 : decode cX9_isKind 0 = .ok (.iload_n 0, 1) := by decide +kernel
theorem dX9_isKind_1 : decode cX9_isKind 1 = .ok (.iconst 0, 1) := by decide +kernel
theorem dX9_isKind_2 : decode cX9_isKind 2 = .ok (.bipush 69, 2) := by decide +kernel
theorem dX9_isKind_4 : decode cX9_isKind 4 = .ok (.invokestatic 57, 3) := by decide +kernel
theorem dX9_isKind_7 : decode cX9_isKind 7 = .ok (.ireturn, 1) := by decide +kernel
theorem dX9_memory_0 : decode cX9_memory 0 = .ok (.iload_n 1, 1) := by decide +kernel
theorem dX9_memory_1 : decode cX9_memory 1 = .ok (.invokestatic 165, 3) := by decide +kernel
theorem dX9_memory_4 : decode cX9_memory 4 = .ok (.ifCond .eq 24, 3) := by decide +kernel
theorem dX9_memory_7 : decode cX9_memory 7 = .ok (.iload_n 2, 1) := by decide +kernel
theorem dX9_memory_8 : decode cX9_memory 8 = .ok (.iconst 1, 1) := by decide +kernel
theorem dX9_memory_9 : decode cX9_memory 9 = .ok (.bipush 15, 2) := by decide +kernel
theorem dX9_memory_11 : decode cX9_memory 11 = .ok (.invokestatic 57, 3) := by decide +kernel
theorem dX9_memory_14 : decode cX9_memory 14 = .ok (.ifCond .eq 14, 3) := by decide +kernel
theorem dX9_memory_17 : decode cX9_memory 17 = .ok (.iload_n 3, 1) := by decide +kernel
theorem dX9_memory_18 : decode cX9_memory 18 = .ok (.iconst 0, 1) := by decide +kernel
theorem dX9_memory_19 : decode cX9_memory 19 = .ok (.sipush 9999, 3) := by decide +kernel
theorem dX9_memory_22 : decode cX9_memory 22 = .ok (.invokestatic 57, 3) := by decide +kernel
theorem dX9_memory_25 : decode cX9_memory 25 = .ok (.ifCond .ne 9, 3) := by decide +kernel
theorem dX9_memory_28 : decode cX9_memory 28 = .ok (.aload_n 0, 1) := by decide +kernel
theorem dX9_memory_29 : decode cX9_memory 29 = .ok (.iconst 1, 1) := by decide +kernel
theorem dX9_memory_30 : decode cX9_memory 30 = .ok (.invokevirtual 61, 3) := by decide +kernel
theorem dX9_memory_33 : decode cX9_memory 33 = .ok (.ireturn, 1) := by decide +kernel
theorem dX9_memory_34 : decode cX9_memory 34 = .ok (.aload_n 0, 1) := by decide +kernel
theorem dX9_memory_35 : decode cX9_memory 35 = .ok (.getfield 7, 3) := by decide +kernel
theorem dX9_memory_38 : decode cX9_memory 38 = .ok (.bipush 6, 2) := by decide +kernel
theorem dX9_memory_40 : decode cX9_memory 40 = .ok (.iaload, 1) := by decide +kernel
theorem dX9_memory_41 : decode cX9_memory 41 = .ok (.bipush 9, 2) := by decide +kernel
theorem dX9_memory_43 : decode cX9_memory 43 = .ok (.if_icmp .ne 9, 3) := by decide +kernel
theorem dX9_memory_46 : decode cX9_memory 46 = .ok (.aload_n 0, 1) := by decide +kernel
theorem dX9_memory_47 : decode cX9_memory 47 = .ok (.iconst 4, 1) := by decide +kernel
theorem dX9_memory_48 : decode cX9_memory 48 = .ok (.invokevirtual 61, 3) := by decide +kernel
theorem dX9_memory_51 : decode cX9_memory 51 = .ok (.ireturn, 1) := by decide +kernel
theorem dX9_memory_52 : decode cX9_memory 52 = .ok (.aload_n 0, 1) := by decide +kernel
theorem dX9_memory_53 : decode cX9_memory 53 = .ok (.getfield 7, 3) := by decide +kernel
theorem dX9_memory_56 : decode cX9_memory 56 = .ok (.bipush 6, 2) := by decide +kernel
theorem dX9_memory_58 : decode cX9_memory 58 = .ok (.iaload, 1) := by decide +kernel
theorem dX9_memory_59 : decode cX9_memory 59 = .ok (.istore 4, 2) := by decide +kernel
theorem dX9_memory_61 : decode cX9_memory 61 = .ok (.aload_n 0, 1) := by decide +kernel
theorem dX9_memory_62 : decode cX9_memory 62 = .ok (.iload 4, 2) := by decide +kernel
theorem dX9_memory_64 : decode cX9_memory 64 = .ok (.iconst 0, 1) := by decide +kernel
theorem dX9_memory_65 : decode cX9_memory 65 = .ok (.iload_n 1, 1) := by decide +kernel
theorem dX9_memory_66 : decode cX9_memory 66 = .ok (.bipush 10, 2) := by decide +kernel
theorem dX9_memory_68 : decode cX9_memory 68 = .ok (.idiv, 1) := by decide +kernel
theorem dX9_memory_69 : decode cX9_memory 69 = .ok (.invokevirtual 157, 3) := by decide +kernel
theorem dX9_memory_72 : decode cX9_memory 72 = .ok (.aload_n 0, 1) := by decide +kernel
theorem dX9_memory_73 : decode cX9_memory 73 = .ok (.iload 4, 2) := by decide +kernel
theorem dX9_memory_75 : decode cX9_memory 75 = .ok (.iconst 1, 1) := by decide +kernel
theorem dX9_memory_76 : decode cX9_memory 76 = .ok (.iload_n 1, 1) := by decide +kernel
theorem dX9_memory_77 : decode cX9_memory 77 = .ok (.bipush 10, 2) := by decide +kernel
theorem dX9_memory_79 : decode cX9_memory 79 = .ok (.irem, 1) := by decide +kernel
theorem dX9_memory_80 : decode cX9_memory 80 = .ok (.invokevirtual 157, 3) := by decide +kernel
theorem dX9_memory_83 : decode cX9_memory 83 = .ok (.aload_n 0, 1) := by decide +kernel
theorem dX9_memory_84 : decode cX9_memory 84 = .ok (.iload 4, 2) := by decide +kernel
theorem dX9_memory_86 : decode cX9_memory 86 = .ok (.iconst 2, 1) := by decide +kernel
theorem dX9_memory_87 : decode cX9_memory 87 = .ok (.iload_n 2, 1) := by decide +kernel
theorem dX9_memory_88 : decode cX9_memory 88 = .ok (.invokevirtual 157, 3) := by decide +kernel
theorem dX9_memory_91 : decode cX9_memory 91 = .ok (.aload_n 0, 1) := by decide +kernel
theorem dX9_memory_92 : decode cX9_memory 92 = .ok (.iload 4, 2) := by decide +kernel
theorem dX9_memory_94 : decode cX9_memory 94 = .ok (.iconst 3, 1) := by decide +kernel
theorem dX9_memory_95 : decode cX9_memory 95 = .ok (.iload_n 3, 1) := by decide +kernel
theorem dX9_memory_96 : decode cX9_memory 96 = .ok (.bipush 100, 2) := by decide +kernel
theorem dX9_memory_98 : decode cX9_memory 98 = .ok (.idiv, 1) := by decide +kernel
theorem dX9_memory_99 : decode cX9_memory 99 = .ok (.invokevirtual 157, 3) := by decide +kernel
theorem dX9_memory_102 : decode cX9_memory 102 = .ok (.aload_n 0, 1) := by decide +kernel
theorem dX9_memory_103 : decode cX9_memory 103 = .ok (.iload 4, 2) := by decide +kernel
theorem dX9_memory_105 : decode cX9_memory 105 = .ok (.iconst 4, 1) := by decide +kernel
theorem dX9_memory_106 : decode cX9_memory 106 = .ok (.iload_n 3, 1) := by decide +kernel
theorem dX9_memory_107 : decode cX9_memory 107 = .ok (.bipush 100, 2) := by decide +kernel
theorem dX9_memory_109 : decode cX9_memory 109 = .ok (.irem, 1) := by decide +kernel
theorem dX9_memory_110 : decode cX9_memory 110 = .ok (.invokevirtual 157, 3) := by decide +kernel
theorem dX9_memory_113 : decode cX9_memory 113 = .ok (.aload_n 0, 1) := by decide +kernel
theorem dX9_memory_114 : decode cX9_memory 114 = .ok (.getfield 7, 3) := by decide +kernel
theorem dX9_memory_117 : decode cX9_memory 117 = .ok (.bipush 6, 2) := by decide +kernel
theorem dX9_memory_119 : decode cX9_memory 119 = .ok (.dup2, 1) := by decide +kernel
theorem dX9_memory_120 : decode cX9_memory 120 = .ok (.iaload, 1) := by decide +kernel
theorem dX9_memory_121 : decode cX9_memory 121 = .ok (.iconst 1, 1) := by decide +kernel
theorem dX9_memory_122 : decode cX9_memory 122 = .ok (.iadd, 1) := by decide +kernel
theorem dX9_memory_123 : decode cX9_memory 123 = .ok (.iastore, 1) := by decide +kernel
theorem dX9_memory_124 : decode cX9_memory 124 = .ok (.iload 4, 2) := by decide +kernel
theorem dX9_memory_126 : decode cX9_memory 126 = .ok (.ireturn, 1) := by decide +kernel
theorem dX9_memoryIs_0 : decode cX9_memoryIs 0 = .ok (.aload_n 0, 1) := by decide +kernel
theorem dX9_memoryIs_1 : decode cX9_memoryIs 1 = .ok (.iload_n 1, 1) := by decide +kernel
theorem dX9_memoryIs_2 : decode cX9_memoryIs 2 = .ok (.invokevirtual 168, 3) := by decide +kernel
theorem dX9_memoryIs_5 : decode cX9_memoryIs 5 = .ok (.ifCond .eq 13, 3) := by decide +kernel
theorem dX9_memoryIs_8 : decode cX9_memoryIs 8 = .ok (.iload_n 2, 1) := by decide +kernel
theorem dX9_memoryIs_9 : decode cX9_memoryIs 9 = .ok (.iconst 0, 1) := by decide +kernel
theorem dX9_memoryIs_10 : decode cX9_memoryIs 10 = .ok (.bipush 6, 2) := by decide +kernel
theorem dX9_memoryIs_12 : decode cX9_memoryIs 12 = .ok (.invokestatic 57, 3) := by decide +kernel
theorem dX9_memoryIs_15 : decode cX9_memoryIs 15 = .ok (.ifCond .ne 9, 3) := by decide +kernel
theorem dX9_memoryIs_18 : decode cX9_memoryIs 18 = .ok (.aload_n 0, 1) := by decide +kernel
theorem dX9_memoryIs_19 : decode cX9_memoryIs 19 = .ok (.iconst 1, 1) := by decide +kernel
theorem dX9_memoryIs_20 : decode cX9_memoryIs 20 = .ok (.invokevirtual 61, 3) := by decide +kernel
theorem dX9_memoryIs_23 : decode cX9_memoryIs 23 = .ok (.ireturn, 1) := by decide +kernel
theorem dX9_memoryIs_24 : decode cX9_memoryIs 24 = .ok (.aload_n 0, 1) := by decide +kernel
theorem dX9_memoryIs_25 : decode cX9_memoryIs 25 = .ok (.iload_n 1, 1) := by decide +kernel
theorem dX9_memoryIs_26 : decode cX9_memoryIs 26 = .ok (.iconst 2, 1) := by decide +kernel
theorem dX9_memoryIs_27 : decode cX9_memoryIs 27 = .ok (.invokevirtual 120, 3) := by decide +kernel
theorem dX9_memoryIs_30 : decode cX9_memoryIs 30 = .ok (.istore_n 3, 1) := by decide +kernel
theorem dX9_memoryIs_31 : decode cX9_memoryIs 31 = .ok (.iload_n 2, 1) := by decide +kernel
theorem dX9_memoryIs_32 : decode cX9_memoryIs 32 = .ok (.iconst 5, 1) := by decide +kernel
theorem dX9_memoryIs_33 : decode cX9_memoryIs 33 = .ok (.if_icmp .ge 12, 3) := by decide +kernel
theorem dX9_memoryIs_36 : decode cX9_memoryIs 36 = .ok (.aload_n 0, 1) := by decide +kernel
theorem dX9_memoryIs_37 : decode cX9_memoryIs 37 = .ok (.iload_n 1, 1) := by decide +kernel
theorem dX9_memoryIs_38 : decode cX9_memoryIs 38 = .ok (.iload_n 2, 1) := by decide +kernel
theorem dX9_memoryIs_39 : decode cX9_memoryIs 39 = .ok (.invokevirtual 120, 3) := by decide +kernel
theorem dX9_memoryIs_42 : decode cX9_memoryIs 42 = .ok (.goto 26, 3) := by decide +kernel
theorem dX9_memoryIs_45 : decode cX9_memoryIs 45 = .ok (.iload_n 2, 1) := by decide +kernel
theorem dX9_memoryIs_46 : decode cX9_memoryIs 46 = .ok (.iconst 5, 1) := by decide +kernel
theorem dX9_memoryIs_47 : decode cX9_memoryIs 47 = .ok (.if_icmp .ne 12, 3) := by decide +kernel
theorem dX9_memoryIs_50 : decode cX9_memoryIs 50 = .ok (.aload_n 0, 1) := by decide +kernel
theorem dX9_memoryIs_51 : decode cX9_memoryIs 51 = .ok (.iload_n 1, 1) := by decide +kernel
theorem dX9_memoryIs_52 : decode cX9_memoryIs 52 = .ok (.iload_n 3, 1) := by decide +kernel
theorem dX9_memoryIs_53 : decode cX9_memoryIs 53 = .ok (.invokevirtual 139, 3) := by decide +kernel
theorem dX9_memoryIs_56 : decode cX9_memoryIs 56 = .ok (.goto 12, 3) := by decide +kernel
theorem dX9_memoryIs_59 : decode cX9_memoryIs 59 = .ok (.aload_n 0, 1) := by decide +kernel
theorem dX9_memoryIs_60 : decode cX9_memoryIs 60 = .ok (.iload_n 1, 1) := by decide +kernel
theorem dX9_memoryIs_61 : decode cX9_memoryIs 61 = .ok (.iload_n 3, 1) := by decide +kernel
theorem dX9_memoryIs_62 : decode cX9_memoryIs 62 = .ok (.invokestatic 130, 3) := by decide +kernel
theorem dX9_memoryIs_65 : decode cX9_memoryIs 65 = .ok (.invokevirtual 142, 3) := by decide +kernel
theorem dX9_memoryIs_68 : decode cX9_memoryIs 68 = .ok (.ireturn, 1) := by decide +kernel
theorem dX9_become_0 : decode cX9_become 0 = .ok (.aload_n 0, 1) := by decide +kernel
theorem dX9_become_1 : decode cX9_become 1 = .ok (.iload_n 1, 1) := by decide +kernel
theorem dX9_become_2 : decode cX9_become 2 = .ok (.invokevirtual 168, 3) := by decide +kernel
theorem dX9_become_5 : decode cX9_become 5 = .ok (.ifCond .eq 10, 3) := by decide +kernel
theorem dX9_become_8 : decode cX9_become 8 = .ok (.iload_n 2, 1) := by decide +kernel
theorem dX9_become_9 : decode cX9_become 9 = .ok (.invokestatic 165, 3) := by decide +kernel
theorem dX9_become_12 : decode cX9_become 12 = .ok (.ifCond .ne 9, 3) := by decide +kernel
theorem dX9_become_15 : decode cX9_become 15 = .ok (.aload_n 0, 1) := by decide +kernel
theorem dX9_become_16 : decode cX9_become 16 = .ok (.iconst 1, 1) := by decide +kernel
theorem dX9_become_17 : decode cX9_become 17 = .ok (.invokevirtual 61, 3) := by decide +kernel
theorem dX9_become_20 : decode cX9_become 20 = .ok (.ireturn, 1) := by decide +kernel
theorem dX9_become_21 : decode cX9_become 21 = .ok (.aload_n 0, 1) := by decide +kernel
theorem dX9_become_22 : decode cX9_become 22 = .ok (.iload_n 1, 1) := by decide +kernel
theorem dX9_become_23 : decode cX9_become 23 = .ok (.iconst 1, 1) := by decide +kernel
theorem dX9_become_24 : decode cX9_become 24 = .ok (.iload_n 2, 1) := by decide +kernel
theorem dX9_become_25 : decode cX9_become 25 = .ok (.bipush 10, 2) := by decide +kernel
theorem dX9_become_27 : decode cX9_become 27 = .ok (.irem, 1) := by decide +kernel
theorem dX9_become_28 : decode cX9_become 28 = .ok (.invokevirtual 157, 3) := by decide +kernel
theorem dX9_become_31 : decode cX9_become 31 = .ok (.aload_n 0, 1) := by decide +kernel
theorem dX9_become_32 : decode cX9_become 32 = .ok (.bipush 8, 2) := by decide +kernel
theorem dX9_become_34 : decode cX9_become 34 = .ok (.iconst 5, 1) := by decide +kernel
theorem dX9_become_35 : decode cX9_become 35 = .ok (.iload_n 1, 1) := by decide +kernel
theorem dX9_become_36 : decode cX9_become 36 = .ok (.imul, 1) := by decide +kernel
theorem dX9_become_37 : decode cX9_become 37 = .ok (.iadd, 1) := by decide +kernel
theorem dX9_become_38 : decode cX9_become 38 = .ok (.iconst 0, 1) := by decide +kernel
theorem dX9_become_39 : decode cX9_become 39 = .ok (.iadd, 1) := by decide +kernel
theorem dX9_become_40 : decode cX9_become 40 = .ok (.iload_n 2, 1) := by decide +kernel
theorem dX9_become_41 : decode cX9_become 41 = .ok (.bipush 10, 2) := by decide +kernel
theorem dX9_become_43 : decode cX9_become 43 = .ok (.idiv, 1) := by decide +kernel
theorem dX9_become_44 : decode cX9_become 44 = .ok (.invokevirtual 171, 3) := by decide +kernel
theorem dX9_become_47 : decode cX9_become 47 = .ok (.ireturn, 1) := by decide +kernel
theorem dX9_as_0 : decode cX9_as 0 = .ok (.aload_n 0, 1) := by decide +kernel
theorem dX9_as_1 : decode cX9_as 1 = .ok (.iload_n 1, 1) := by decide +kernel
theorem dX9_as_2 : decode cX9_as 2 = .ok (.invokevirtual 168, 3) := by decide +kernel
theorem dX9_as_5 : decode cX9_as 5 = .ok (.ifCond .eq 13, 3) := by decide +kernel
theorem dX9_as_8 : decode cX9_as 8 = .ok (.iload_n 2, 1) := by decide +kernel
end
section
theorem dX9_as_9 : decode cX9_as 9 = .ok (.iconst 0, 1) := by decide +kernel
theorem dX9_as_10 : decode cX9_as 10 = .ok (.bipush 6, 2) := by decide +kernel
theorem dX9_as_12 : decode cX9_as 12 = .ok (.invokestatic 57, 3) := by decide +kernel
theorem dX9_as_15 : decode cX9_as 15 = .ok (.ifCond .ne 9, 3) := by decide +kernel
theorem dX9_as_18 : decode cX9_as 18 = .ok (.aload_n 0, 1) := by decide +kernel
theorem dX9_as_19 : decode cX9_as 19 = .ok (.iconst 1, 1) := by decide +kernel
theorem dX9_as_20 : decode cX9_as 20 = .ok (.invokevirtual 61, 3) := by decide +kernel
theorem dX9_as_23 : decode cX9_as 23 = .ok (.ireturn, 1) := by decide +kernel
theorem dX9_as_24 : decode cX9_as 24 = .ok (.aload_n 0, 1) := by decide +kernel
theorem dX9_as_25 : decode cX9_as 25 = .ok (.iload_n 1, 1) := by decide +kernel
theorem dX9_as_26 : decode cX9_as 26 = .ok (.iconst 0, 1) := by decide +kernel
theorem dX9_as_27 : decode cX9_as 27 = .ok (.invokevirtual 120, 3) := by decide +kernel
theorem dX9_as_30 : decode cX9_as 30 = .ok (.istore_n 3, 1) := by decide +kernel
theorem dX9_as_31 : decode cX9_as 31 = .ok (.iload_n 3, 1) := by decide +kernel
theorem dX9_as_32 : decode cX9_as 32 = .ok (.iload_n 2, 1) := by decide +kernel
theorem dX9_as_33 : decode cX9_as 33 = .ok (.if_icmp .eq 15, 3) := by decide +kernel
theorem dX9_as_36 : decode cX9_as 36 = .ok (.iload_n 3, 1) := by decide +kernel
theorem dX9_as_37 : decode cX9_as 37 = .ok (.ifCond .eq 11, 3) := by decide +kernel
theorem dX9_as_40 : decode cX9_as 40 = .ok (.iload_n 3, 1) := by decide +kernel
theorem dX9_as_41 : decode cX9_as 41 = .ok (.invokestatic 174, 3) := by decide +kernel
theorem dX9_as_44 : decode cX9_as 44 = .ok (.istore_n 3, 1) := by decide +kernel
theorem dX9_as_45 : decode cX9_as 45 = .ok (.goto (-14), 3) := by decide +kernel
theorem dX9_as_48 : decode cX9_as 48 = .ok (.iload_n 3, 1) := by decide +kernel
theorem dX9_as_49 : decode cX9_as 49 = .ok (.iload_n 2, 1) := by decide +kernel
theorem dX9_as_50 : decode cX9_as 50 = .ok (.if_icmp .ne 12, 3) := by decide +kernel
theorem dX9_as_53 : decode cX9_as 53 = .ok (.aload_n 0, 1) := by decide +kernel
theorem dX9_as_54 : decode cX9_as 54 = .ok (.iload_n 1, 1) := by decide +kernel
theorem dX9_as_55 : decode cX9_as 55 = .ok (.iconst 1, 1) := by decide +kernel
theorem dX9_as_56 : decode cX9_as 56 = .ok (.invokevirtual 120, 3) := by decide +kernel
theorem dX9_as_59 : decode cX9_as 59 = .ok (.goto 8, 3) := by decide +kernel
theorem dX9_as_62 : decode cX9_as 62 = .ok (.aload_n 0, 1) := by decide +kernel
theorem dX9_as_63 : decode cX9_as 63 = .ok (.iconst 5, 1) := by decide +kernel
theorem dX9_as_64 : decode cX9_as 64 = .ok (.invokevirtual 61, 3) := by decide +kernel
theorem dX9_as_67 : decode cX9_as 67 = .ok (.ireturn, 1) := by decide +kernel
theorem dX9_fills_0 : decode cX9_fills 0 = .ok (.aload_n 0, 1) := by decide +kernel
theorem dX9_fills_1 : decode cX9_fills 1 = .ok (.iload_n 1, 1) := by decide +kernel
theorem dX9_fills_2 : decode cX9_fills 2 = .ok (.invokevirtual 168, 3) := by decide +kernel
theorem dX9_fills_5 : decode cX9_fills 5 = .ok (.ifCond .eq 29, 3) := by decide +kernel
theorem dX9_fills_8 : decode cX9_fills 8 = .ok (.iload_n 2, 1) := by decide +kernel
theorem dX9_fills_9 : decode cX9_fills 9 = .ok (.iconst 0, 1) := by decide +kernel
theorem dX9_fills_10 : decode cX9_fills 10 = .ok (.bipush 99, 2) := by decide +kernel
theorem dX9_fills_12 : decode cX9_fills 12 = .ok (.invokestatic 57, 3) := by decide +kernel
theorem dX9_fills_15 : decode cX9_fills 15 = .ok (.ifCond .eq 19, 3) := by decide +kernel
theorem dX9_fills_18 : decode cX9_fills 18 = .ok (.aload_n 0, 1) := by decide +kernel
theorem dX9_fills_19 : decode cX9_fills 19 = .ok (.bipush 8, 2) := by decide +kernel
theorem dX9_fills_21 : decode cX9_fills 21 = .ok (.iconst 5, 1) := by decide +kernel
theorem dX9_fills_22 : decode cX9_fills 22 = .ok (.iload_n 1, 1) := by decide +kernel
theorem dX9_fills_23 : decode cX9_fills 23 = .ok (.imul, 1) := by decide +kernel
theorem dX9_fills_24 : decode cX9_fills 24 = .ok (.iadd, 1) := by decide +kernel
theorem dX9_fills_25 : decode cX9_fills 25 = .ok (.iconst 3, 1) := by decide +kernel
theorem dX9_fills_26 : decode cX9_fills 26 = .ok (.iadd, 1) := by decide +kernel
theorem dX9_fills_27 : decode cX9_fills 27 = .ok (.iload_n 2, 1) := by decide +kernel
theorem dX9_fills_28 : decode cX9_fills 28 = .ok (.invokevirtual 171, 3) := by decide +kernel
theorem dX9_fills_31 : decode cX9_fills 31 = .ok (.goto 8, 3) := by decide +kernel
theorem dX9_fills_34 : decode cX9_fills 34 = .ok (.aload_n 0, 1) := by decide +kernel
theorem dX9_fills_35 : decode cX9_fills 35 = .ok (.iconst 1, 1) := by decide +kernel
theorem dX9_fills_36 : decode cX9_fills 36 = .ok (.invokevirtual 61, 3) := by decide +kernel
theorem dX9_fills_39 : decode cX9_fills 39 = .ok (.ireturn, 1) := by decide +kernel
theorem dX9_dear_0 : decode cX9_dear 0 = .ok (.aload_n 0, 1) := by decide +kernel
theorem dX9_dear_1 : decode cX9_dear 1 = .ok (.iload_n 1, 1) := by decide +kernel
theorem dX9_dear_2 : decode cX9_dear 2 = .ok (.invokevirtual 168, 3) := by decide +kernel
theorem dX9_dear_5 : decode cX9_dear 5 = .ok (.ifCond .eq 29, 3) := by decide +kernel
theorem dX9_dear_8 : decode cX9_dear 8 = .ok (.iload_n 2, 1) := by decide +kernel
theorem dX9_dear_9 : decode cX9_dear 9 = .ok (.iconst 0, 1) := by decide +kernel
theorem dX9_dear_10 : decode cX9_dear 10 = .ok (.bipush 99, 2) := by decide +kernel
theorem dX9_dear_12 : decode cX9_dear 12 = .ok (.invokestatic 57, 3) := by decide +kernel
theorem dX9_dear_15 : decode cX9_dear 15 = .ok (.ifCond .eq 19, 3) := by decide +kernel
theorem dX9_dear_18 : decode cX9_dear 18 = .ok (.aload_n 0, 1) := by decide +kernel
theorem dX9_dear_19 : decode cX9_dear 19 = .ok (.bipush 8, 2) := by decide +kernel
theorem dX9_dear_21 : decode cX9_dear 21 = .ok (.iconst 5, 1) := by decide +kernel
theorem dX9_dear_22 : decode cX9_dear 22 = .ok (.iload_n 1, 1) := by decide +kernel
theorem dX9_dear_23 : decode cX9_dear 23 = .ok (.imul, 1) := by decide +kernel
theorem dX9_dear_24 : decode cX9_dear 24 = .ok (.iadd, 1) := by decide +kernel
theorem dX9_dear_25 : decode cX9_dear 25 = .ok (.iconst 4, 1) := by decide +kernel
theorem dX9_dear_26 : decode cX9_dear 26 = .ok (.iadd, 1) := by decide +kernel
theorem dX9_dear_27 : decode cX9_dear 27 = .ok (.iload_n 2, 1) := by decide +kernel
theorem dX9_dear_28 : decode cX9_dear 28 = .ok (.invokevirtual 171, 3) := by decide +kernel
theorem dX9_dear_31 : decode cX9_dear 31 = .ok (.goto 8, 3) := by decide +kernel
theorem dX9_dear_34 : decode cX9_dear 34 = .ok (.aload_n 0, 1) := by decide +kernel
theorem dX9_dear_35 : decode cX9_dear 35 = .ok (.iconst 1, 1) := by decide +kernel
theorem dX9_dear_36 : decode cX9_dear 36 = .ok (.invokevirtual 61, 3) := by decide +kernel
theorem dX9_dear_39 : decode cX9_dear 39 = .ok (.ireturn, 1) := by decide +kernel
theorem dX9_trim_0 : decode cX9_trim 0 = .ok (.aload_n 0, 1) := by decide +kernel
theorem dX9_trim_1 : decode cX9_trim 1 = .ok (.iload_n 1, 1) := by decide +kernel
theorem dX9_trim_2 : decode cX9_trim 2 = .ok (.invokevirtual 168, 3) := by decide +kernel
theorem dX9_trim_5 : decode cX9_trim 5 = .ok (.ifCond .eq 10, 3) := by decide +kernel
theorem dX9_trim_8 : decode cX9_trim 8 = .ok (.iload_n 2, 1) := by decide +kernel
theorem dX9_trim_9 : decode cX9_trim 9 = .ok (.invokestatic 177, 3) := by decide +kernel
theorem dX9_trim_12 : decode cX9_trim 12 = .ok (.ifCond .ne 9, 3) := by decide +kernel
theorem dX9_trim_15 : decode cX9_trim 15 = .ok (.aload_n 0, 1) := by decide +kernel
theorem dX9_trim_16 : decode cX9_trim 16 = .ok (.iconst 1, 1) := by decide +kernel
theorem dX9_trim_17 : decode cX9_trim 17 = .ok (.invokevirtual 61, 3) := by decide +kernel
theorem dX9_trim_20 : decode cX9_trim 20 = .ok (.ireturn, 1) := by decide +kernel
theorem dX9_trim_21 : decode cX9_trim 21 = .ok (.aload_n 0, 1) := by decide +kernel
theorem dX9_trim_22 : decode cX9_trim 22 = .ok (.iload_n 1, 1) := by decide +kernel
theorem dX9_trim_23 : decode cX9_trim 23 = .ok (.iconst 2, 1) := by decide +kernel
theorem dX9_trim_24 : decode cX9_trim 24 = .ok (.invokevirtual 120, 3) := by decide +kernel
theorem dX9_trim_27 : decode cX9_trim 27 = .ok (.istore_n 3, 1) := by decide +kernel
theorem dX9_trim_28 : decode cX9_trim 28 = .ok (.iload_n 3, 1) := by decide +kernel
theorem dX9_trim_29 : decode cX9_trim 29 = .ok (.iconst 1, 1) := by decide +kernel
theorem dX9_trim_30 : decode cX9_trim 30 = .ok (.iload_n 2, 1) := by decide +kernel
theorem dX9_trim_31 : decode cX9_trim 31 = .ok (.ishl, 1) := by decide +kernel
theorem dX9_trim_32 : decode cX9_trim 32 = .ok (.if_icmp .ne 9, 3) := by decide +kernel
theorem dX9_trim_35 : decode cX9_trim 35 = .ok (.aload_n 0, 1) := by decide +kernel
theorem dX9_trim_36 : decode cX9_trim 36 = .ok (.iconst 3, 1) := by decide +kernel
theorem dX9_trim_37 : decode cX9_trim 37 = .ok (.invokevirtual 61, 3) := by decide +kernel
theorem dX9_trim_40 : decode cX9_trim 40 = .ok (.ireturn, 1) := by decide +kernel
theorem dX9_trim_41 : decode cX9_trim 41 = .ok (.aload_n 0, 1) := by decide +kernel
theorem dX9_trim_42 : decode cX9_trim 42 = .ok (.iload_n 1, 1) := by decide +kernel
theorem dX9_trim_43 : decode cX9_trim 43 = .ok (.iconst 2, 1) := by decide +kernel
theorem dX9_trim_44 : decode cX9_trim 44 = .ok (.iload_n 3, 1) := by decide +kernel
theorem dX9_trim_45 : decode cX9_trim 45 = .ok (.iconst 1, 1) := by decide +kernel
theorem dX9_trim_46 : decode cX9_trim 46 = .ok (.iload_n 2, 1) := by decide +kernel
theorem dX9_trim_47 : decode cX9_trim 47 = .ok (.ishl, 1) := by decide +kernel
theorem dX9_trim_48 : decode cX9_trim 48 = .ok (.iconst (-1), 1) := by decide +kernel
theorem dX9_trim_49 : decode cX9_trim 49 = .ok (.ixor, 1) := by decide +kernel
theorem dX9_trim_50 : decode cX9_trim 50 = .ok (.iand, 1) := by decide +kernel
theorem dX9_trim_51 : decode cX9_trim 51 = .ok (.invokevirtual 157, 3) := by decide +kernel
theorem dX9_trim_54 : decode cX9_trim 54 = .ok (.iload_n 3, 1) := by decide +kernel
theorem dX9_trim_55 : decode cX9_trim 55 = .ok (.iload_n 2, 1) := by decide +kernel
theorem dX9_trim_56 : decode cX9_trim 56 = .ok (.ishr, 1) := by decide +kernel
theorem dX9_trim_57 : decode cX9_trim 57 = .ok (.iconst 1, 1) := by decide +kernel
theorem dX9_trim_58 : decode cX9_trim 58 = .ok (.iand, 1) := by decide +kernel
theorem dX9_trim_59 : decode cX9_trim 59 = .ok (.ireturn, 1) := by decide +kernel
theorem dX9_tells_0 : decode cX9_tells 0 = .ok (.aload_n 0, 1) := by decide +kernel
theorem dX9_tells_1 : decode cX9_tells 1 = .ok (.iload_n 1, 1) := by decide +kernel
theorem dX9_tells_2 : decode cX9_tells 2 = .ok (.invokevirtual 168, 3) := by decide +kernel
theorem dX9_tells_5 : decode cX9_tells 5 = .ok (.ifCond .eq 10, 3) := by decide +kernel
theorem dX9_tells_8 : decode cX9_tells 8 = .ok (.iload_n 2, 1) := by decide +kernel
theorem dX9_tells_9 : decode cX9_tells 9 = .ok (.invokestatic 177, 3) := by decide +kernel
theorem dX9_tells_12 : decode cX9_tells 12 = .ok (.ifCond .ne 9, 3) := by decide +kernel
theorem dX9_tells_15 : decode cX9_tells 15 = .ok (.aload_n 0, 1) := by decide +kernel
theorem dX9_tells_16 : decode cX9_tells 16 = .ok (.iconst 1, 1) := by decide +kernel
theorem dX9_tells_17 : decode cX9_tells 17 = .ok (.invokevirtual 61, 3) := by decide +kernel
theorem dX9_tells_20 : decode cX9_tells 20 = .ok (.ireturn, 1) := by decide +kernel
theorem dX9_tells_21 : decode cX9_tells 21 = .ok (.aload_n 0, 1) := by decide +kernel
theorem dX9_tells_22 : decode cX9_tells 22 = .ok (.iload_n 1, 1) := by decide +kernel
theorem dX9_tells_23 : decode cX9_tells 23 = .ok (.iconst 2, 1) := by decide +kernel
theorem dX9_tells_24 : decode cX9_tells 24 = .ok (.invokevirtual 120, 3) := by decide +kernel
theorem dX9_tells_27 : decode cX9_tells 27 = .ok (.istore_n 3, 1) := by decide +kernel
theorem dX9_tells_28 : decode cX9_tells 28 = .ok (.aload_n 0, 1) := by decide +kernel
theorem dX9_tells_29 : decode cX9_tells 29 = .ok (.iload_n 1, 1) := by decide +kernel
theorem dX9_tells_30 : decode cX9_tells 30 = .ok (.iconst 2, 1) := by decide +kernel
theorem dX9_tells_31 : decode cX9_tells 31 = .ok (.iload_n 3, 1) := by decide +kernel
theorem dX9_tells_32 : decode cX9_tells 32 = .ok (.iconst 1, 1) := by decide +kernel
theorem dX9_tells_33 : decode cX9_tells 33 = .ok (.iload_n 2, 1) := by decide +kernel
theorem dX9_tells_34 : decode cX9_tells 34 = .ok (.ishl, 1) := by decide +kernel
theorem dX9_tells_35 : decode cX9_tells 35 = .ok (.ior, 1) := by decide +kernel
theorem dX9_tells_36 : decode cX9_tells 36 = .ok (.invokevirtual 157, 3) := by decide +kernel
theorem dX9_tells_39 : decode cX9_tells 39 = .ok (.iload_n 3, 1) := by decide +kernel
theorem dX9_tells_40 : decode cX9_tells 40 = .ok (.iload_n 2, 1) := by decide +kernel
theorem dX9_tells_41 : decode cX9_tells 41 = .ok (.ishr, 1) := by decide +kernel
theorem dX9_tells_42 : decode cX9_tells 42 = .ok (.iconst 1, 1) := by decide +kernel
theorem dX9_tells_43 : decode cX9_tells 43 = .ok (.iand, 1) := by decide +kernel
theorem dX9_tells_44 : decode cX9_tells 44 = .ok (.ireturn, 1) := by decide +kernel
theorem dX9_blows_0 : decode cX9_blows 0 = .ok (.iload_n 1, 1) := by decide +kernel
theorem dX9_blows_1 : decode cX9_blows 1 = .ok (.iconst 0, 1) := by decide +kernel
theorem dX9_blows_2 : decode cX9_blows 2 = .ok (.bipush 9, 2) := by decide +kernel
theorem dX9_blows_4 : decode cX9_blows 4 = .ok (.invokestatic 57, 3) := by decide +kernel
theorem dX9_blows_7 : decode cX9_blows 7 = .ok (.ifCond .eq 12, 3) := by decide +kernel
theorem dX9_blows_10 : decode cX9_blows 10 = .ok (.aload_n 0, 1) := by decide +kernel
theorem dX9_blows_11 : decode cX9_blows 11 = .ok (.iconst 0, 1) := by decide +kernel
theorem dX9_blows_12 : decode cX9_blows 12 = .ok (.iload_n 1, 1) := by decide +kernel
theorem dX9_blows_13 : decode cX9_blows 13 = .ok (.invokevirtual 171, 3) := by decide +kernel
theorem dX9_blows_16 : decode cX9_blows 16 = .ok (.goto 8, 3) := by decide +kernel
theorem dX9_blows_19 : decode cX9_blows 19 = .ok (.aload_n 0, 1) := by decide +kernel
theorem dX9_blows_20 : decode cX9_blows 20 = .ok (.iconst 1, 1) := by decide +kernel
theorem dX9_blows_21 : decode cX9_blows 21 = .ok (.invokevirtual 61, 3) := by decide +kernel
theorem dX9_blows_24 : decode cX9_blows 24 = .ok (.ireturn, 1) := by decide +kernel
theorem dX9_law_0 : decode cX9_law 0 = .ok (.iload_n 1, 1) := by decide +kernel
theorem dX9_law_1 : decode cX9_law 1 = .ok (.iconst 0, 1) := by decide +kernel
theorem dX9_law_2 : decode cX9_law 2 = .ok (.iconst 1, 1) := by decide +kernel
theorem dX9_law_3 : decode cX9_law 3 = .ok (.invokestatic 57, 3) := by decide +kernel
theorem dX9_law_6 : decode cX9_law 6 = .ok (.ifCond .ne 9, 3) := by decide +kernel
theorem dX9_law_9 : decode cX9_law 9 = .ok (.aload_n 0, 1) := by decide +kernel
theorem dX9_law_10 : decode cX9_law 10 = .ok (.iconst 1, 1) := by decide +kernel
theorem dX9_law_11 : decode cX9_law 11 = .ok (.invokevirtual 61, 3) := by decide +kernel
theorem dX9_law_14 : decode cX9_law 14 = .ok (.ireturn, 1) := by decide +kernel
theorem dX9_law_15 : decode cX9_law 15 = .ok (.iload_n 1, 1) := by decide +kernel
theorem dX9_law_16 : decode cX9_law 16 = .ok (.ifCond .ne 14, 3) := by decide +kernel
theorem dX9_law_19 : decode cX9_law 19 = .ok (.aload_n 0, 1) := by decide +kernel
theorem dX9_law_20 : decode cX9_law 20 = .ok (.iload_n 2, 1) := by decide +kernel
theorem dX9_law_21 : decode cX9_law 21 = .ok (.iload_n 3, 1) := by decide +kernel
theorem dX9_law_22 : decode cX9_law 22 = .ok (.iload 4, 2) := by decide +kernel
theorem dX9_law_24 : decode cX9_law 24 = .ok (.invokevirtual 136, 3) := by decide +kernel
theorem dX9_law_27 : decode cX9_law 27 = .ok (.goto 11, 3) := by decide +kernel
theorem dX9_law_30 : decode cX9_law 30 = .ok (.aload_n 0, 1) := by decide +kernel
theorem dX9_law_31 : decode cX9_law 31 = .ok (.iload_n 2, 1) := by decide +kernel
theorem dX9_law_32 : decode cX9_law 32 = .ok (.iload_n 3, 1) := by decide +kernel
theorem dX9_law_33 : decode cX9_law 33 = .ok (.iload 4, 2) := by decide +kernel
theorem dX9_law_35 : decode cX9_law 35 = .ok (.invokevirtual 145, 3) := by decide +kernel
theorem dX9_law_38 : decode cX9_law 38 = .ok (.ireturn, 1) := by decide +kernel
theorem dX9_whyNot_0 : decode cX9_whyNot 0 = .ok (.iload_n 1, 1) := by decide +kernel
theorem dX9_whyNot_1 : decode cX9_whyNot 1 = .ok (.iconst 1, 1) := by decide +kernel
theorem dX9_whyNot_2 : decode cX9_whyNot 2 = .ok (.iload_n 2, 1) := by decide +kernel
theorem dX9_whyNot_3 : decode cX9_whyNot 3 = .ok (.invokestatic 57, 3) := by decide +kernel
theorem dX9_whyNot_6 : decode cX9_whyNot 6 = .ok (.ifCond .ne 7, 3) := by decide +kernel
theorem dX9_whyNot_9 : decode cX9_whyNot 9 = .ok (.iconst 1, 1) := by decide +kernel
theorem dX9_whyNot_10 : decode cX9_whyNot 10 = .ok (.goto 22, 3) := by decide +kernel
theorem dX9_whyNot_13 : decode cX9_whyNot 13 = .ok (.aload_n 0, 1) := by decide +kernel
theorem dX9_whyNot_14 : decode cX9_whyNot 14 = .ok (.getfield 7, 3) := by decide +kernel
theorem dX9_whyNot_17 : decode cX9_whyNot 17 = .ok (.iconst 1, 1) := by decide +kernel
theorem dX9_whyNot_18 : decode cX9_whyNot 18 = .ok (.iaload, 1) := by decide +kernel
theorem dX9_whyNot_19 : decode cX9_whyNot 19 = .ok (.iload_n 1, 1) := by decide +kernel
theorem dX9_whyNot_20 : decode cX9_whyNot 20 = .ok (.iadd, 1) := by decide +kernel
theorem dX9_whyNot_21 : decode cX9_whyNot 21 = .ok (.sipush 9999, 3) := by decide +kernel
theorem dX9_whyNot_24 : decode cX9_whyNot 24 = .ok (.if_icmp .le 7, 3) := by decide +kernel
theorem dX9_whyNot_27 : decode cX9_whyNot 27 = .ok (.iconst 3, 1) := by decide +kernel
theorem dX9_whyNot_28 : decode cX9_whyNot 28 = .ok (.goto 4, 3) := by decide +kernel
theorem dX9_whyNot_31 : decode cX9_whyNot 31 = .ok (.iconst 0, 1) := by decide +kernel
theorem dX9_whyNot_32 : decode cX9_whyNot 32 = .ok (.ireturn, 1) := by decide +kernel
theorem dX9_nights_0 : decode cX9_nights 0 = .ok (.aload_n 0, 1) := by decide +kernel
theorem dX9_nights_1 : decode cX9_nights 1 = .ok (.iload_n 1, 1) := by decide +kernel
theorem dX9_nights_2 : decode cX9_nights 2 = .ok (.bipush 60, 2) := by decide +kernel
theorem dX9_nights_4 : decode cX9_nights 4 = .ok (.invokevirtual 180, 3) := by decide +kernel
theorem dX9_nights_7 : decode cX9_nights 7 = .ok (.istore_n 2, 1) := by decide +kernel
theorem dX9_nights_8 : decode cX9_nights 8 = .ok (.iload_n 2, 1) := by decide +kernel
theorem dX9_nights_9 : decode cX9_nights 9 = .ok (.ifCond .eq 11, 3) := by decide +kernel
theorem dX9_nights_12 : decode cX9_nights 12 = .ok (.aload_n 0, 1) := by decide +kernel
theorem dX9_nights_13 : decode cX9_nights 13 = .ok (.iload_n 2, 1) := by decide +kernel
theorem dX9_nights_14 : decode cX9_nights 14 = .ok (.invokevirtual 61, 3) := by decide +kernel
theorem dX9_nights_17 : decode cX9_nights 17 = .ok (.goto 8, 3) := by decide +kernel
theorem dX9_nights_20 : decode cX9_nights 20 = .ok (.aload_n 0, 1) := by decide +kernel
theorem dX9_nights_21 : decode cX9_nights 21 = .ok (.iload_n 1, 1) := by decide +kernel
theorem dX9_nights_22 : decode cX9_nights 22 = .ok (.invokevirtual 183, 3) := by decide +kernel
theorem dX9_nights_25 : decode cX9_nights 25 = .ok (.ireturn, 1) := by decide +kernel
theorem dX9_weathers_0 : decode cX9_weathers 0 = .ok (.aload_n 0, 1) := by decide +kernel
theorem dX9_weathers_1 : decode cX9_weathers 1 = .ok (.getfield 7, 3) := by decide +kernel
theorem dX9_weathers_4 : decode cX9_weathers 4 = .ok (.iconst 0, 1) := by decide +kernel
theorem dX9_weathers_5 : decode cX9_weathers 5 = .ok (.aload_n 0, 1) := by decide +kernel
theorem dX9_weathers_6 : decode cX9_weathers 6 = .ok (.invokevirtual 186, 3) := by decide +kernel
theorem dX9_weathers_9 : decode cX9_weathers 9 = .ok (.bipush 10, 2) := by decide +kernel
theorem dX9_weathers_11 : decode cX9_weathers 11 = .ok (.irem, 1) := by decide +kernel
theorem dX9_weathers_12 : decode cX9_weathers 12 = .ok (.iastore, 1) := by decide +kernel
theorem dX9_weathers_13 : decode cX9_weathers 13 = .ok (.aload_n 0, 1) := by decide +kernel
theorem dX9_weathers_14 : decode cX9_weathers 14 = .ok (.getfield 7, 3) := by decide +kernel
theorem dX9_weathers_17 : decode cX9_weathers 17 = .ok (.bipush 6, 2) := by decide +kernel
theorem dX9_weathers_19 : decode cX9_weathers 19 = .ok (.iaload, 1) := by decide +kernel
theorem dX9_weathers_20 : decode cX9_weathers 20 = .ok (.ifCond .le 51, 3) := by decide +kernel
theorem dX9_weathers_23 : decode cX9_weathers 23 = .ok (.aload_n 0, 1) := by decide +kernel
theorem dX9_weathers_24 : decode cX9_weathers 24 = .ok (.invokevirtual 186, 3) := by decide +kernel
theorem dX9_weathers_27 : decode cX9_weathers 27 = .ok (.bipush 8, 2) := by decide +kernel
theorem dX9_weathers_29 : decode cX9_weathers 29 = .ok (.irem, 1) := by decide +kernel
theorem dX9_weathers_30 : decode cX9_weathers 30 = .ok (.ifCond .ne 41, 3) := by decide +kernel
theorem dX9_weathers_33 : decode cX9_weathers 33 = .ok (.aload_n 0, 1) := by decide +kernel
theorem dX9_weathers_34 : decode cX9_weathers 34 = .ok (.invokevirtual 186, 3) := by decide +kernel
theorem dX9_weathers_37 : decode cX9_weathers 37 = .ok (.aload_n 0, 1) := by decide +kernel
theorem dX9_weathers_38 : decode cX9_weathers 38 = .ok (.getfield 7, 3) := by decide +kernel
theorem dX9_weathers_41 : decode cX9_weathers 41 = .ok (.bipush 6, 2) := by decide +kernel
theorem dX9_weathers_43 : decode cX9_weathers 43 = .ok (.iaload, 1) := by decide +kernel
theorem dX9_weathers_44 : decode cX9_weathers 44 = .ok (.irem, 1) := by decide +kernel
theorem dX9_weathers_45 : decode cX9_weathers 45 = .ok (.istore_n 1, 1) := by decide +kernel
theorem dX9_weathers_46 : decode cX9_weathers 46 = .ok (.aload_n 0, 1) := by decide +kernel
theorem dX9_weathers_47 : decode cX9_weathers 47 = .ok (.iload_n 1, 1) := by decide +kernel
theorem dX9_weathers_48 : decode cX9_weathers 48 = .ok (.iconst 3, 1) := by decide +kernel
theorem dX9_weathers_49 : decode cX9_weathers 49 = .ok (.aload_n 0, 1) := by decide +kernel
theorem dX9_weathers_50 : decode cX9_weathers 50 = .ok (.iload_n 1, 1) := by decide +kernel
theorem dX9_weathers_51 : decode cX9_weathers 51 = .ok (.iconst 3, 1) := by decide +kernel
theorem dX9_weathers_52 : decode cX9_weathers 52 = .ok (.invokevirtual 120, 3) := by decide +kernel
theorem dX9_weathers_55 : decode cX9_weathers 55 = .ok (.aload_n 0, 1) := by decide +kernel
theorem dX9_weathers_56 : decode cX9_weathers 56 = .ok (.invokevirtual 186, 3) := by decide +kernel
theorem dX9_weathers_59 : decode cX9_weathers 59 = .ok (.iconst 5, 1) := by decide +kernel
theorem dX9_weathers_60 : decode cX9_weathers 60 = .ok (.irem, 1) := by decide +kernel
theorem dX9_weathers_61 : decode cX9_weathers 61 = .ok (.iadd, 1) := by decide +kernel
theorem dX9_weathers_62 : decode cX9_weathers 62 = .ok (.iconst 0, 1) := by decide +kernel
theorem dX9_weathers_63 : decode cX9_weathers 63 = .ok (.bipush 99, 2) := by decide +kernel
theorem dX9_weathers_65 : decode cX9_weathers 65 = .ok (.invokestatic 127, 3) := by decide +kernel
theorem dX9_weathers_68 : decode cX9_weathers 68 = .ok (.invokevirtual 157, 3) := by decide +kernel
theorem dX9_weathers_71 : decode cX9_weathers 71 = .ok (.return_, 1) := by decide +kernel
theorem dX9_loose_0 : decode cX9_loose 0 = .ok (.aload_n 0, 1) := by decide +kernel
theorem dX9_loose_1 : decode cX9_loose 1 = .ok (.iload_n 1, 1) := by decide +kernel
theorem dX9_loose_2 : decode cX9_loose 2 = .ok (.bipush 30, 2) := by decide +kernel
theorem dX9_loose_4 : decode cX9_loose 4 = .ok (.invokevirtual 180, 3) := by decide +kernel
theorem dX9_loose_7 : decode cX9_loose 7 = .ok (.istore_n 2, 1) := by decide +kernel
theorem dX9_loose_8 : decode cX9_loose 8 = .ok (.iload_n 2, 1) := by decide +kernel
theorem dX9_loose_9 : decode cX9_loose 9 = .ok (.ifCond .eq 9, 3) := by decide +kernel
theorem dX9_loose_12 : decode cX9_loose 12 = .ok (.aload_n 0, 1) := by decide +kernel
theorem dX9_loose_13 : decode cX9_loose 13 = .ok (.iload_n 2, 1) := by decide +kernel
theorem dX9_loose_14 : decode cX9_loose 14 = .ok (.invokevirtual 61, 3) := by decide +kernel
theorem dX9_loose_17 : decode cX9_loose 17 = .ok (.ireturn, 1) := by decide +kernel
theorem dX9_loose_18 : decode cX9_loose 18 = .ok (.iconst 0, 1) := by decide +kernel
theorem dX9_loose_19 : decode cX9_loose 19 = .ok (.istore_n 3, 1) := by decide +kernel
theorem dX9_loose_20 : decode cX9_loose 20 = .ok (.iconst 0, 1) := by decide +kernel
theorem dX9_loose_21 : decode cX9_loose 21 = .ok (.istore 4, 2) := by decide +kernel
theorem dX9_loose_23 : decode cX9_loose 23 = .ok (.iload 4, 2) := by decide +kernel
theorem dX9_loose_25 : decode cX9_loose 25 = .ok (.iload_n 1, 1) := by decide +kernel
theorem dX9_loose_26 : decode cX9_loose 26 = .ok (.if_icmp .ge 28, 3) := by decide +kernel
theorem dX9_loose_29 : decode cX9_loose 29 = .ok (.aload_n 0, 1) := by decide +kernel
theorem dX9_loose_30 : decode cX9_loose 30 = .ok (.invokevirtual 189, 3) := by decide +kernel
theorem dX9_loose_33 : decode cX9_loose 33 = .ok (.iload_n 3, 1) := by decide +kernel
theorem dX9_loose_34 : decode cX9_loose 34 = .ok (.aload_n 0, 1) := by decide +kernel
theorem dX9_loose_35 : decode cX9_loose 35 = .ok (.invokevirtual 161, 3) := by decide +kernel
theorem dX9_loose_38 : decode cX9_loose 38 = .ok (.ifCond .eq 7, 3) := by decide +kernel
theorem dX9_loose_41 : decode cX9_loose 41 = .ok (.iconst 1, 1) := by decide +kernel
theorem dX9_loose_42 : decode cX9_loose 42 = .ok (.goto 4, 3) := by decide +kernel
theorem dX9_loose_45 : decode cX9_loose 45 = .ok (.iconst 0, 1) := by decide +kernel
theorem dX9_loose_46 : decode cX9_loose 46 = .ok (.iadd, 1) := by decide +kernel
theorem dX9_loose_47 : decode cX9_loose 47 = .ok (.istore_n 3, 1) := by decide +kernel
theorem dX9_loose_48 : decode cX9_loose 48 = .ok (.iinc 4 1, 3) := by decide +kernel
theorem dX9_loose_51 : decode cX9_loose 51 = .ok (.goto (-28), 3) := by decide +kernel
theorem dX9_loose_54 : decode cX9_loose 54 = .ok (.iload_n 3, 1) := by decide +kernel
theorem dX9_loose_55 : decode cX9_loose 55 = .ok (.ireturn, 1) := by decide +kernel
theorem dX9_seed_0 : decode cX9_seed 0 = .ok (.aload_n 0, 1) := by decide +kernel
theorem dX9_seed_1 : decode cX9_seed 1 = .ok (.iconst 3, 1) := by decide +kernel
theorem dX9_seed_2 : decode cX9_seed 2 = .ok (.iload_n 1, 1) := by decide +kernel
theorem dX9_seed_3 : decode cX9_seed 3 = .ok (.invokevirtual 171, 3) := by decide +kernel
theorem dX9_seed_6 : decode cX9_seed 6 = .ok (.ireturn, 1) := by decide +kernel
theorem dX9_tonight_0 : decode cX9_tonight 0 = .ok (.iload_n 1, 1) := by decide +kernel
theorem dX9_tonight_1 : decode cX9_tonight 1 = .ok (.iconst 0, 1) := by decide +kernel
theorem dX9_tonight_2 : decode cX9_tonight 2 = .ok (.iconst 3, 1) := by decide +kernel
theorem dX9_tonight_3 : decode cX9_tonight 3 = .ok (.invokestatic 57, 3) := by decide +kernel
theorem dX9_tonight_6 : decode cX9_tonight 6 = .ok (.ifCond .ne 9, 3) := by decide +kernel
theorem dX9_tonight_9 : decode cX9_tonight 9 = .ok (.aload_n 0, 1) := by decide +kernel
theorem dX9_tonight_10 : decode cX9_tonight 10 = .ok (.iconst 1, 1) := by decide +kernel
theorem dX9_tonight_11 : decode cX9_tonight 11 = .ok (.invokevirtual 61, 3) := by decide +kernel
theorem dX9_tonight_14 : decode cX9_tonight 14 = .ok (.ireturn, 1) := by decide +kernel
theorem dX9_tonight_15 : decode cX9_tonight 15 = .ok (.aload_n 0, 1) := by decide +kernel
theorem dX9_tonight_16 : decode cX9_tonight 16 = .ok (.invokevirtual 154, 3) := by decide +kernel
theorem dX9_tonight_19 : decode cX9_tonight 19 = .ok (.istore_n 2, 1) := by decide +kernel
theorem dX9_tonight_20 : decode cX9_tonight 20 = .ok (.iload_n 1, 1) := by decide +kernel
theorem dX9_tonight_21 : decode cX9_tonight 21 = .ok (.iconst 3, 1) := by decide +kernel
theorem dX9_tonight_22 : decode cX9_tonight 22 = .ok (.if_icmp .ne 8, 3) := by decide +kernel
theorem dX9_tonight_25 : decode cX9_tonight 25 = .ok (.aload_n 0, 1) := by decide +kernel
theorem dX9_tonight_26 : decode cX9_tonight 26 = .ok (.invokevirtual 148, 3) := by decide +kernel
theorem dX9_tonight_29 : decode cX9_tonight 29 = .ok (.ireturn, 1) := by decide +kernel
theorem dX9_tonight_30 : decode cX9_tonight 30 = .ok (.iload_n 2, 1) := by decide +kernel
theorem dX9_tonight_31 : decode cX9_tonight 31 = .ok (.iconst (-1), 1) := by decide +kernel
theorem dX9_tonight_32 : decode cX9_tonight 32 = .ok (.if_icmp .ne 11, 3) := by decide +kernel
theorem dX9_tonight_35 : decode cX9_tonight 35 = .ok (.aload_n 0, 1) := by decide +kernel
theorem dX9_tonight_36 : decode cX9_tonight 36 = .ok (.iconst 2, 1) := by decide +kernel
theorem dX9_tonight_37 : decode cX9_tonight 37 = .ok (.invokevirtual 61, 3) := by decide +kernel
theorem dX9_tonight_40 : decode cX9_tonight 40 = .ok (.goto 31, 3) := by decide +kernel
theorem dX9_tonight_43 : decode cX9_tonight 43 = .ok (.iload_n 1, 1) := by decide +kernel
theorem dX9_tonight_44 : decode cX9_tonight 44 = .ok (.ifCond .ne 7, 3) := by decide +kernel
theorem dX9_tonight_47 : decode cX9_tonight 47 = .ok (.iload_n 2, 1) := by decide +kernel
theorem dX9_tonight_48 : decode cX9_tonight 48 = .ok (.goto 23, 3) := by decide +kernel
theorem dX9_tonight_51 : decode cX9_tonight 51 = .ok (.iload_n 1, 1) := by decide +kernel
theorem dX9_tonight_52 : decode cX9_tonight 52 = .ok (.iconst 1, 1) := by decide +kernel
theorem dX9_tonight_53 : decode cX9_tonight 53 = .ok (.if_icmp .ne 12, 3) := by decide +kernel
theorem dX9_tonight_56 : decode cX9_tonight 56 = .ok (.aload_n 0, 1) := by decide +kernel
theorem dX9_tonight_57 : decode cX9_tonight 57 = .ok (.getfield 38, 3) := by decide +kernel
theorem dX9_tonight_60 : decode cX9_tonight 60 = .ok (.iload_n 2, 1) := by decide +kernel
theorem dX9_tonight_61 : decode cX9_tonight 61 = .ok (.iaload, 1) := by decide +kernel
theorem dX9_tonight_62 : decode cX9_tonight 62 = .ok (.goto 9, 3) := by decide +kernel
theorem dX9_tonight_65 : decode cX9_tonight 65 = .ok (.aload_n 0, 1) := by decide +kernel
theorem dX9_tonight_66 : decode cX9_tonight 66 = .ok (.getfield 35, 3) := by decide +kernel
theorem dX9_tonight_69 : decode cX9_tonight 69 = .ok (.iload_n 2, 1) := by decide +kernel
theorem dX9_tonight_70 : decode cX9_tonight 70 = .ok (.iaload, 1) := by decide +kernel
theorem dX9_tonight_71 : decode cX9_tonight 71 = .ok (.ireturn, 1) := by decide +kernel
theorem dX9_litNights_0 : decode cX9_litNights 0 = .ok (.aload_n 0, 1) := by decide +kernel
theorem dX9_litNights_1 : decode cX9_litNights 1 = .ok (.invokevirtual 192, 3) := by decide +kernel
theorem dX9_litNights_4 : decode cX9_litNights 4 = .ok (.iconst 0, 1) := by decide +kernel
theorem dX9_litNights_5 : decode cX9_litNights 5 = .ok (.istore_n 1, 1) := by decide +kernel
theorem dX9_litNights_6 : decode cX9_litNights 6 = .ok (.iload_n 1, 1) := by decide +kernel
theorem dX9_litNights_7 : decode cX9_litNights 7 = .ok (.bipush 60, 2) := by decide +kernel
theorem dX9_litNights_9 : decode cX9_litNights 9 = .ok (.if_icmp .ge 16, 3) := by decide +kernel
theorem dX9_litNights_12 : decode cX9_litNights 12 = .ok (.aload_n 0, 1) := by decide +kernel
theorem dX9_litNights_13 : decode cX9_litNights 13 = .ok (.invokevirtual 161, 3) := by decide +kernel
theorem dX9_litNights_16 : decode cX9_litNights 16 = .ok (.ifCond .eq 9, 3) := by decide +kernel
theorem dX9_litNights_19 : decode cX9_litNights 19 = .ok (.iinc 1 1, 3) := by decide +kernel
theorem dX9_litNights_22 : decode cX9_litNights 22 = .ok (.goto (-16), 3) := by decide +kernel
theorem dX9_litNights_25 : decode cX9_litNights 25 = .ok (.aload_n 0, 1) := by decide +kernel
theorem dX9_litNights_26 : decode cX9_litNights 26 = .ok (.invokevirtual 195, 3) := by decide +kernel
theorem dX9_litNights_29 : decode cX9_litNights 29 = .ok (.iload_n 1, 1) := by decide +kernel
theorem dX9_litNights_30 : decode cX9_litNights 30 = .ok (.ireturn, 1) := by decide +kernel
theorem dX9_lasts_0 : decode cX9_lasts 0 = .ok (.aload_n 0, 1) := by decide +kernel
theorem dX9_lasts_1 : decode cX9_lasts 1 = .ok (.invokevirtual 198, 3) := by decide +kernel
theorem dX9_lasts_4 : decode cX9_lasts 4 = .ok (.ireturn, 1) := by decide +kernel
theorem dX9_without_0 : decode cX9_without 0 = .ok (.aload_n 0, 1) := by decide +kernel
theorem dX9_without_1 : decode cX9_without 1 = .ok (.iload_n 1, 1) := by decide +kernel
theorem dX9_without_2 : decode cX9_without 2 = .ok (.invokevirtual 168, 3) := by decide +kernel
theorem dX9_without_5 : decode cX9_without 5 = .ok (.ifCond .ne 9, 3) := by decide +kernel
theorem dX9_without_8 : decode cX9_without 8 = .ok (.aload_n 0, 1) := by decide +kernel
theorem dX9_without_9 : decode cX9_without 9 = .ok (.iconst 1, 1) := by decide +kernel
theorem dX9_without_10 : decode cX9_without 10 = .ok (.invokevirtual 61, 3) := by decide +kernel
theorem dX9_without_13 : decode cX9_without 13 = .ok (.ireturn, 1) := by decide +kernel
theorem dX9_without_14 : decode cX9_without 14 = .ok (.aload_n 0, 1) := by decide +kernel
theorem dX9_without_15 : decode cX9_without 15 = .ok (.invokevirtual 198, 3) := by decide +kernel
theorem dX9_without_18 : decode cX9_without 18 = .ok (.istore_n 2, 1) := by decide +kernel
theorem dX9_without_19 : decode cX9_without 19 = .ok (.aload_n 0, 1) := by decide +kernel
theorem dX9_without_20 : decode cX9_without 20 = .ok (.iload_n 1, 1) := by decide +kernel
theorem dX9_without_21 : decode cX9_without 21 = .ok (.putfield 22, 3) := by decide +kernel
theorem dX9_without_24 : decode cX9_without 24 = .ok (.aload_n 0, 1) := by decide +kernel
theorem dX9_without_25 : decode cX9_without 25 = .ok (.invokevirtual 198, 3) := by decide +kernel
theorem dX9_without_28 : decode cX9_without 28 = .ok (.istore_n 3, 1) := by decide +kernel
theorem dX9_without_29 : decode cX9_without 29 = .ok (.aload_n 0, 1) := by decide +kernel
theorem dX9_without_30 : decode cX9_without 30 = .ok (.iconst (-1), 1) := by decide +kernel
theorem dX9_without_31 : decode cX9_without 31 = .ok (.putfield 22, 3) := by decide +kernel
theorem dX9_without_34 : decode cX9_without 34 = .ok (.iload_n 2, 1) := by decide +kernel
theorem dX9_without_35 : decode cX9_without 35 = .ok (.iload_n 3, 1) := by decide +kernel
theorem dX9_without_36 : decode cX9_without 36 = .ok (.isub, 1) := by decide +kernel
theorem dX9_without_37 : decode cX9_without 37 = .ok (.ireturn, 1) := by decide +kernel
theorem dX9_then_0 : decode cX9_then 0 = .ok (.aload_n 0, 1) := by decide +kernel
theorem dX9_then_1 : decode cX9_then 1 = .ok (.iload_n 1, 1) := by decide +kernel
theorem dX9_then_2 : decode cX9_then 2 = .ok (.invokevirtual 168, 3) := by decide +kernel
theorem dX9_then_5 : decode cX9_then 5 = .ok (.ifCond .eq 13, 3) := by decide +kernel
theorem dX9_then_8 : decode cX9_then 8 = .ok (.iload_n 2, 1) := by decide +kernel
theorem dX9_then_9 : decode cX9_then 9 = .ok (.iconst 0, 1) := by decide +kernel
theorem dX9_then_10 : decode cX9_then 10 = .ok (.bipush 60, 2) := by decide +kernel
theorem dX9_then_12 : decode cX9_then 12 = .ok (.invokestatic 57, 3) := by decide +kernel
theorem dX9_then_15 : decode cX9_then 15 = .ok (.ifCond .ne 9, 3) := by decide +kernel
theorem dX9_then_18 : decode cX9_then 18 = .ok (.aload_n 0, 1) := by decide +kernel
theorem dX9_then_19 : decode cX9_then 19 = .ok (.iconst 1, 1) := by decide +kernel
theorem dX9_then_20 : decode cX9_then 20 = .ok (.invokevirtual 61, 3) := by decide +kernel
theorem dX9_then_23 : decode cX9_then 23 = .ok (.ireturn, 1) := by decide +kernel
theorem dX9_then_24 : decode cX9_then 24 = .ok (.aload_n 0, 1) := by decide +kernel
theorem dX9_then_25 : decode cX9_then 25 = .ok (.invokevirtual 192, 3) := by decide +kernel
theorem dX9_then_28 : decode cX9_then 28 = .ok (.aload_n 0, 1) := by decide +kernel
theorem dX9_then_29 : decode cX9_then 29 = .ok (.iload_n 2, 1) := by decide +kernel
theorem dX9_then_30 : decode cX9_then 30 = .ok (.invokevirtual 183, 3) := by decide +kernel
theorem dX9_then_33 : decode cX9_then 33 = .ok (.istore_n 3, 1) := by decide +kernel
theorem dX9_then_34 : decode cX9_then 34 = .ok (.aload_n 0, 1) := by decide +kernel
theorem dX9_then_35 : decode cX9_then 35 = .ok (.iload_n 1, 1) := by decide +kernel
theorem dX9_then_36 : decode cX9_then 36 = .ok (.iconst 3, 1) := by decide +kernel
theorem dX9_then_37 : decode cX9_then 37 = .ok (.invokevirtual 120, 3) := by decide +kernel
theorem dX9_then_40 : decode cX9_then 40 = .ok (.istore 4, 2) := by decide +kernel
theorem dX9_then_42 : decode cX9_then 42 = .ok (.aload_n 0, 1) := by decide +kernel
theorem dX9_then_43 : decode cX9_then 43 = .ok (.invokevirtual 195, 3) := by decide +kernel
theorem dX9_then_46 : decode cX9_then 46 = .ok (.iload 4, 2) := by decide +kernel
theorem dX9_then_48 : decode cX9_then 48 = .ok (.ireturn, 1) := by decide +kernel
theorem dX9_has_0 : decode cX9_has 0 = .ok (.iload_n 1, 1) := by decide +kernel
theorem dX9_has_1 : decode cX9_has 1 = .ok (.invokestatic 177, 3) := by decide +kernel
theorem dX9_has_4 : decode cX9_has 4 = .ok (.ifCond .ne 9, 3) := by decide +kernel
theorem dX9_has_7 : decode cX9_has 7 = .ok (.aload_n 0, 1) := by decide +kernel
theorem dX9_has_8 : decode cX9_has 8 = .ok (.iconst 1, 1) := by decide +kernel
theorem dX9_has_9 : decode cX9_has 9 = .ok (.invokevirtual 61, 3) := by decide +kernel
theorem dX9_has_12 : decode cX9_has 12 = .ok (.ireturn, 1) := by decide +kernel
theorem dX9_has_13 : decode cX9_has 13 = .ok (.iconst 0, 1) := by decide +kernel
theorem dX9_has_14 : decode cX9_has 14 = .ok (.istore_n 2, 1) := by decide +kernel
theorem dX9_has_15 : decode cX9_has 15 = .ok (.iconst 0, 1) := by decide +kernel
theorem dX9_has_16 : decode cX9_has 16 = .ok (.istore_n 3, 1) := by decide +kernel
theorem dX9_has_17 : decode cX9_has 17 = .ok (.iload_n 3, 1) := by decide +kernel
theorem dX9_has_18 : decode cX9_has 18 = .ok (.aload_n 0, 1) := by decide +kernel
theorem dX9_has_19 : decode cX9_has 19 = .ok (.getfield 7, 3) := by decide +kernel
theorem dX9_has_22 : decode cX9_has 22 = .ok (.bipush 6, 2) := by decide +kernel
theorem dX9_has_24 : decode cX9_has 24 = .ok (.iaload, 1) := by decide +kernel
theorem dX9_has_25 : decode cX9_has 25 = .ok (.if_icmp .ge 54, 3) := by decide +kernel
theorem dX9_has_28 : decode cX9_has 28 = .ok (.aload_n 0, 1) := by decide +kernel
theorem dX9_has_29 : decode cX9_has 29 = .ok (.iload_n 3, 1) := by decide +kernel
theorem dX9_has_30 : decode cX9_has 30 = .ok (.iconst 2, 1) := by decide +kernel
theorem dX9_has_31 : decode cX9_has 31 = .ok (.invokevirtual 120, 3) := by decide +kernel
theorem dX9_has_34 : decode cX9_has 34 = .ok (.istore 4, 2) := by decide +kernel
theorem dX9_has_36 : decode cX9_has 36 = .ok (.iload_n 2, 1) := by decide +kernel
theorem dX9_has_37 : decode cX9_has 37 = .ok (.iload 4, 2) := by decide +kernel
theorem dX9_has_39 : decode cX9_has 39 = .ok (.iload_n 1, 1) := by decide +kernel
theorem dX9_has_40 : decode cX9_has 40 = .ok (.ishr, 1) := by decide +kernel
theorem dX9_has_41 : decode cX9_has 41 = .ok (.iconst 1, 1) := by decide +kernel
theorem dX9_has_42 : decode cX9_has 42 = .ok (.iand, 1) := by decide +kernel
theorem dX9_has_43 : decode cX9_has 43 = .ok (.iconst 1, 1) := by decide +kernel
theorem dX9_has_44 : decode cX9_has 44 = .ok (.if_icmp .ne 26, 3) := by decide +kernel
theorem dX9_has_47 : decode cX9_has 47 = .ok (.aload_n 0, 1) := by decide +kernel
theorem dX9_has_48 : decode cX9_has 48 = .ok (.iload_n 3, 1) := by decide +kernel
theorem dX9_has_49 : decode cX9_has 49 = .ok (.iconst 3, 1) := by decide +kernel
theorem dX9_has_50 : decode cX9_has 50 = .ok (.invokevirtual 120, 3) := by decide +kernel
theorem dX9_has_53 : decode cX9_has 53 = .ok (.aload_n 0, 1) := by decide +kernel
theorem dX9_has_54 : decode cX9_has 54 = .ok (.iload_n 3, 1) := by decide +kernel
theorem dX9_has_55 : decode cX9_has 55 = .ok (.iload 4, 2) := by decide +kernel
theorem dX9_has_57 : decode cX9_has 57 = .ok (.invokevirtual 139, 3) := by decide +kernel
theorem dX9_has_60 : decode cX9_has 60 = .ok (.imul, 1) := by decide +kernel
theorem dX9_has_61 : decode cX9_has 61 = .ok (.iload 4, 2) := by decide +kernel
theorem dX9_has_63 : decode cX9_has 63 = .ok (.invokestatic 130, 3) := by decide +kernel
theorem dX9_has_66 : decode cX9_has 66 = .ok (.idiv, 1) := by decide +kernel
theorem dX9_has_67 : decode cX9_has 67 = .ok (.goto 4, 3) := by decide +kernel
theorem dX9_has_70 : decode cX9_has 70 = .ok (.iconst 0, 1) := by decide +kernel
theorem dX9_has_71 : decode cX9_has 71 = .ok (.iadd, 1) := by decide +kernel
theorem dX9_has_72 : decode cX9_has 72 = .ok (.istore_n 2, 1) := by decide +kernel
theorem dX9_has_73 : decode cX9_has 73 = .ok (.iinc 3 1, 3) := by decide +kernel
theorem dX9_has_76 : decode cX9_has 76 = .ok (.goto (-59), 3) := by decide +kernel
theorem dX9_has_79 : decode cX9_has 79 = .ok (.iload_n 2, 1) := by decide +kernel
theorem dX9_has_80 : decode cX9_has 80 = .ok (.ireturn, 1) := by decide +kernel
theorem dX9_mixes_0 : decode cX9_mixes 0 = .ok (.aload_n 0, 1) := by decide +kernel
theorem dX9_mixes_1 : decode cX9_mixes 1 = .ok (.iload_n 1, 1) := by decide +kernel
theorem dX9_mixes_2 : decode cX9_mixes 2 = .ok (.invokevirtual 168, 3) := by decide +kernel
theorem dX9_mixes_5 : decode cX9_mixes 5 = .ok (.ifCond .eq 12, 3) := by decide +kernel
theorem dX9_mixes_8 : decode cX9_mixes 8 = .ok (.iload_n 2, 1) := by decide +kernel
theorem dX9_mixes_9 : decode cX9_mixes 9 = .ok (.iconst 0, 1) := by decide +kernel
theorem dX9_mixes_10 : decode cX9_mixes 10 = .ok (.iconst 1, 1) := by decide +kernel
theorem dX9_mixes_11 : decode cX9_mixes 11 = .ok (.invokestatic 57, 3) := by decide +kernel
theorem dX9_mixes_14 : decode cX9_mixes 14 = .ok (.ifCond .ne 9, 3) := by decide +kernel
theorem dX9_mixes_17 : decode cX9_mixes 17 = .ok (.aload_n 0, 1) := by decide +kernel
theorem dX9_mixes_18 : decode cX9_mixes 18 = .ok (.iconst 1, 1) := by decide +kernel
theorem dX9_mixes_19 : decode cX9_mixes 19 = .ok (.invokevirtual 61, 3) := by decide +kernel
theorem dX9_mixes_22 : decode cX9_mixes 22 = .ok (.ireturn, 1) := by decide +kernel
theorem dX9_mixes_23 : decode cX9_mixes 23 = .ok (.iconst 1, 1) := by decide +kernel
theorem dX9_mixes_24 : decode cX9_mixes 24 = .ok (.istore_n 3, 1) := by decide +kernel
theorem dX9_mixes_25 : decode cX9_mixes 25 = .ok (.iconst 2, 1) := by decide +kernel
theorem dX9_mixes_26 : decode cX9_mixes 26 = .ok (.istore 4, 2) := by decide +kernel
theorem dX9_mixes_28 : decode cX9_mixes 28 = .ok (.iload 4, 2) := by decide +kernel
theorem dX9_mixes_30 : decode cX9_mixes 30 = .ok (.bipush 16, 2) := by decide +kernel
theorem dX9_mixes_32 : decode cX9_mixes 32 = .ok (.if_icmp .ge 32, 3) := by decide +kernel
theorem dX9_mixes_35 : decode cX9_mixes 35 = .ok (.aload_n 0, 1) := by decide +kernel
theorem dX9_mixes_36 : decode cX9_mixes 36 = .ok (.iload_n 1, 1) := by decide +kernel
theorem dX9_mixes_37 : decode cX9_mixes 37 = .ok (.iload 4, 2) := by decide +kernel
theorem dX9_mixes_39 : decode cX9_mixes 39 = .ok (.invokevirtual 151, 3) := by decide +kernel
theorem dX9_mixes_42 : decode cX9_mixes 42 = .ok (.aload_n 0, 1) := by decide +kernel
theorem dX9_mixes_43 : decode cX9_mixes 43 = .ok (.iload_n 1, 1) := by decide +kernel
theorem dX9_mixes_44 : decode cX9_mixes 44 = .ok (.iload_n 3, 1) := by decide +kernel
theorem dX9_mixes_45 : decode cX9_mixes 45 = .ok (.invokevirtual 151, 3) := by decide +kernel
theorem dX9_mixes_48 : decode cX9_mixes 48 = .ok (.if_icmp .le 8, 3) := by decide +kernel
theorem dX9_mixes_51 : decode cX9_mixes 51 = .ok (.iload 4, 2) := by decide +kernel
theorem dX9_mixes_53 : decode cX9_mixes 53 = .ok (.goto 4, 3) := by decide +kernel
theorem dX9_mixes_56 : decode cX9_mixes 56 = .ok (.iload_n 3, 1) := by decide +kernel
theorem dX9_mixes_57 : decode cX9_mixes 57 = .ok (.istore_n 3, 1) := by decide +kernel
theorem dX9_mixes_58 : decode cX9_mixes 58 = .ok (.iinc 4 1, 3) := by decide +kernel
theorem dX9_mixes_61 : decode cX9_mixes 61 = .ok (.goto (-33), 3) := by decide +kernel
theorem dX9_mixes_64 : decode cX9_mixes 64 = .ok (.iload_n 2, 1) := by decide +kernel
theorem dX9_mixes_65 : decode cX9_mixes 65 = .ok (.ifCond .ne 7, 3) := by decide +kernel
theorem dX9_mixes_68 : decode cX9_mixes 68 = .ok (.iload_n 3, 1) := by decide +kernel
theorem dX9_mixes_69 : decode cX9_mixes 69 = .ok (.goto 9, 3) := by decide +kernel
theorem dX9_mixes_72 : decode cX9_mixes 72 = .ok (.aload_n 0, 1) := by decide +kernel
theorem dX9_mixes_73 : decode cX9_mixes 73 = .ok (.iload_n 1, 1) := by decide +kernel
theorem dX9_mixes_74 : decode cX9_mixes 74 = .ok (.iload_n 3, 1) := by decide +kernel
theorem dX9_mixes_75 : decode cX9_mixes 75 = .ok (.invokevirtual 151, 3) := by decide +kernel
theorem dX9_mixes_78 : decode cX9_mixes 78 = .ok (.ireturn, 1) := by decide +kernel
theorem dX9_divisor_0 : decode cX9_divisor 0 = .ok (.iload_n 0, 1) := by decide +kernel
theorem dX9_divisor_1 : decode cX9_divisor 1 = .ok (.istore_n 2, 1) := by decide +kernel
theorem dX9_divisor_2 : decode cX9_divisor 2 = .ok (.iload_n 1, 1) := by decide +kernel
theorem dX9_divisor_3 : decode cX9_divisor 3 = .ok (.istore_n 3, 1) := by decide +kernel
theorem dX9_divisor_4 : decode cX9_divisor 4 = .ok (.iload_n 3, 1) := by decide +kernel
theorem dX9_divisor_5 : decode cX9_divisor 5 = .ok (.ifCond .eq 16, 3) := by decide +kernel
theorem dX9_divisor_8 : decode cX9_divisor 8 = .ok (.iload_n 2, 1) := by decide +kernel
theorem dX9_divisor_9 : decode cX9_divisor 9 = .ok (.iload_n 3, 1) := by decide +kernel
theorem dX9_divisor_10 : decode cX9_divisor 10 = .ok (.irem, 1) := by decide +kernel
theorem dX9_divisor_11 : decode cX9_divisor 11 = .ok (.istore 4, 2) := by decide +kernel
theorem dX9_divisor_13 : decode cX9_divisor 13 = .ok (.iload_n 3, 1) := by decide +kernel
theorem dX9_divisor_14 : decode cX9_divisor 14 = .ok (.istore_n 2, 1) := by decide +kernel
theorem dX9_divisor_15 : decode cX9_divisor 15 = .ok (.iload 4, 2) := by decide +kernel
theorem dX9_divisor_17 : decode cX9_divisor 17 = .ok (.istore_n 3, 1) := by decide +kernel
theorem dX9_divisor_18 : decode cX9_divisor 18 = .ok (.goto (-14), 3) := by decide +kernel
theorem dX9_divisor_21 : decode cX9_divisor 21 = .ok (.iload_n 2, 1) := by decide +kernel
theorem dX9_divisor_22 : decode cX9_divisor 22 = .ok (.ireturn, 1) := by decide +kernel
theorem dX9_odds_0 : decode cX9_odds 0 = .ok (.iload_n 1, 1) := by decide +kernel
theorem dX9_odds_1 : decode cX9_odds 1 = .ok (.iconst 0, 1) := by decide +kernel
theorem dX9_odds_2 : decode cX9_odds 2 = .ok (.iconst 1, 1) := by decide +kernel
theorem dX9_odds_3 : decode cX9_odds 3 = .ok (.invokestatic 57, 3) := by decide +kernel
theorem dX9_odds_6 : decode cX9_odds 6 = .ok (.ifCond .ne 9, 3) := by decide +kernel
theorem dX9_odds_9 : decode cX9_odds 9 = .ok (.aload_n 0, 1) := by decide +kernel
theorem dX9_odds_10 : decode cX9_odds 10 = .ok (.iconst 1, 1) := by decide +kernel
theorem dX9_odds_11 : decode cX9_odds 11 = .ok (.invokevirtual 61, 3) := by decide +kernel
theorem dX9_odds_14 : decode cX9_odds 14 = .ok (.ireturn, 1) := by decide +kernel
theorem dX9_odds_15 : decode cX9_odds 15 = .ok (.aload_n 0, 1) := by decide +kernel
theorem dX9_odds_16 : decode cX9_odds 16 = .ok (.getfield 7, 3) := by decide +kernel
theorem dX9_odds_19 : decode cX9_odds 19 = .ok (.iconst 0, 1) := by decide +kernel
theorem dX9_odds_20 : decode cX9_odds 20 = .ok (.iaload, 1) := by decide +kernel
theorem dX9_odds_21 : decode cX9_odds 21 = .ok (.istore_n 2, 1) := by decide +kernel
theorem dX9_odds_22 : decode cX9_odds 22 = .ok (.iconst 0, 1) := by decide +kernel
theorem dX9_odds_23 : decode cX9_odds 23 = .ok (.istore_n 3, 1) := by decide +kernel
theorem dX9_odds_24 : decode cX9_odds 24 = .ok (.iconst 0, 1) := by decide +kernel
theorem dX9_odds_25 : decode cX9_odds 25 = .ok (.istore 4, 2) := by decide +kernel
theorem dX9_odds_27 : decode cX9_odds 27 = .ok (.iload 4, 2) := by decide +kernel
theorem dX9_odds_29 : decode cX9_odds 29 = .ok (.bipush 9, 2) := by decide +kernel
theorem dX9_odds_31 : decode cX9_odds 31 = .ok (.if_icmp .gt 33, 3) := by decide +kernel
theorem dX9_odds_34 : decode cX9_odds 34 = .ok (.aload_n 0, 1) := by decide +kernel
theorem dX9_odds_35 : decode cX9_odds 35 = .ok (.getfield 7, 3) := by decide +kernel
theorem dX9_odds_38 : decode cX9_odds 38 = .ok (.iconst 0, 1) := by decide +kernel
theorem dX9_odds_39 : decode cX9_odds 39 = .ok (.iload 4, 2) := by decide +kernel
theorem dX9_odds_41 : decode cX9_odds 41 = .ok (.iastore, 1) := by decide +kernel
theorem dX9_odds_42 : decode cX9_odds 42 = .ok (.iload_n 3, 1) := by decide +kernel
theorem dX9_odds_43 : decode cX9_odds 43 = .ok (.aload_n 0, 1) := by decide +kernel
theorem dX9_odds_44 : decode cX9_odds 44 = .ok (.invokevirtual 154, 3) := by decide +kernel
theorem dX9_odds_47 : decode cX9_odds 47 = .ok (.iconst (-1), 1) := by decide +kernel
theorem dX9_odds_48 : decode cX9_odds 48 = .ok (.if_icmp .eq 7, 3) := by decide +kernel
theorem dX9_odds_51 : decode cX9_odds 51 = .ok (.iconst 1, 1) := by decide +kernel
theorem dX9_odds_52 : decode cX9_odds 52 = .ok (.goto 4, 3) := by decide +kernel
theorem dX9_odds_55 : decode cX9_odds 55 = .ok (.iconst 0, 1) := by decide +kernel
theorem dX9_odds_56 : decode cX9_odds 56 = .ok (.iadd, 1) := by decide +kernel
theorem dX9_odds_57 : decode cX9_odds 57 = .ok (.istore_n 3, 1) := by decide +kernel
theorem dX9_odds_58 : decode cX9_odds 58 = .ok (.iinc 4 1, 3) := by decide +kernel
theorem dX9_odds_61 : decode cX9_odds 61 = .ok (.goto (-34), 3) := by decide +kernel
theorem dX9_odds_64 : decode cX9_odds 64 = .ok (.aload_n 0, 1) := by decide +kernel
theorem dX9_odds_65 : decode cX9_odds 65 = .ok (.getfield 7, 3) := by decide +kernel
theorem dX9_odds_68 : decode cX9_odds 68 = .ok (.iconst 0, 1) := by decide +kernel
theorem dX9_odds_69 : decode cX9_odds 69 = .ok (.iload_n 2, 1) := by decide +kernel
theorem dX9_odds_70 : decode cX9_odds 70 = .ok (.iastore, 1) := by decide +kernel
theorem dX9_odds_71 : decode cX9_odds 71 = .ok (.iload_n 3, 1) := by decide +kernel
theorem dX9_odds_72 : decode cX9_odds 72 = .ok (.bipush 10, 2) := by decide +kernel
theorem dX9_odds_74 : decode cX9_odds 74 = .ok (.invokestatic 201, 3) := by decide +kernel
theorem dX9_odds_77 : decode cX9_odds 77 = .ok (.istore 4, 2) := by decide +kernel
theorem dX9_odds_79 : decode cX9_odds 79 = .ok (.iload_n 1, 1) := by decide +kernel
theorem dX9_odds_80 : decode cX9_odds 80 = .ok (.ifCond .ne 10, 3) := by decide +kernel
theorem dX9_odds_83 : decode cX9_odds 83 = .ok (.iload_n 3, 1) := by decide +kernel
theorem dX9_odds_84 : decode cX9_odds 84 = .ok (.iload 4, 2) := by decide +kernel
theorem dX9_odds_86 : decode cX9_odds 86 = .ok (.idiv, 1) := by decide +kernel
theorem dX9_odds_87 : decode cX9_odds 87 = .ok (.goto 8, 3) := by decide +kernel
theorem dX9_odds_90 : decode cX9_odds 90 = .ok (.bipush 10, 2) := by decide +kernel
theorem dX9_odds_92 : decode cX9_odds 92 = .ok (.iload 4, 2) := by decide +kernel
theorem dX9_odds_94 : decode cX9_odds 94 = .ok (.idiv, 1) := by decide +kernel
theorem dX9_odds_95 : decode cX9_odds 95 = .ok (.ireturn, 1) := by decide +kernel
theorem dX9_areLeftSo_0 : decode cX9_areLeftSo 0 = .ok (.aload_n 0, 1) := by decide +kernel
theorem dX9_areLeftSo_1 : decode cX9_areLeftSo 1 = .ok (.getfield 47, 3) := by decide +kernel
theorem dX9_areLeftSo_4 : decode cX9_areLeftSo 4 = .ok (.iload_n 1, 1) := by decide +kernel
theorem dX9_areLeftSo_5 : decode cX9_areLeftSo 5 = .ok (.iaload, 1) := by decide +kernel
theorem dX9_areLeftSo_6 : decode cX9_areLeftSo 6 = .ok (.aload_n 0, 1) := by decide +kernel
theorem dX9_areLeftSo_7 : decode cX9_areLeftSo 7 = .ok (.getfield 7, 3) := by decide +kernel
theorem dX9_areLeftSo_10 : decode cX9_areLeftSo 10 = .ok (.bipush 6, 2) := by decide +kernel
theorem dX9_areLeftSo_12 : decode cX9_areLeftSo 12 = .ok (.iaload, 1) := by decide +kernel
theorem dX9_areLeftSo_13 : decode cX9_areLeftSo 13 = .ok (.if_icmp .gt 7, 3) := by decide +kernel
theorem dX9_areLeftSo_16 : decode cX9_areLeftSo 16 = .ok (.iconst 1, 1) := by decide +kernel
theorem dX9_areLeftSo_17 : decode cX9_areLeftSo 17 = .ok (.goto 4, 3) := by decide +kernel
theorem dX9_areLeftSo_20 : decode cX9_areLeftSo 20 = .ok (.iconst 0, 1) := by decide +kernel
theorem dX9_areLeftSo_21 : decode cX9_areLeftSo 21 = .ok (.istore_n 2, 1) := by decide +kernel
theorem dX9_areLeftSo_22 : decode cX9_areLeftSo 22 = .ok (.iconst 0, 1) := by decide +kernel
theorem dX9_areLeftSo_23 : decode cX9_areLeftSo 23 = .ok (.istore_n 3, 1) := by decide +kernel
theorem dX9_areLeftSo_24 : decode cX9_areLeftSo 24 = .ok (.iload_n 3, 1) := by decide +kernel
theorem dX9_areLeftSo_25 : decode cX9_areLeftSo 25 = .ok (.aload_n 0, 1) := by decide +kernel
theorem dX9_areLeftSo_26 : decode cX9_areLeftSo 26 = .ok (.getfield 47, 3) := by decide +kernel
theorem dX9_areLeftSo_29 : decode cX9_areLeftSo 29 = .ok (.iload_n 1, 1) := by decide +kernel
theorem dX9_areLeftSo_30 : decode cX9_areLeftSo 30 = .ok (.iaload, 1) := by decide +kernel
theorem dX9_areLeftSo_31 : decode cX9_areLeftSo 31 = .ok (.if_icmp .ge 39, 3) := by decide +kernel
theorem dX9_areLeftSo_34 : decode cX9_areLeftSo 34 = .ok (.iload_n 2, 1) := by decide +kernel
theorem dX9_areLeftSo_35 : decode cX9_areLeftSo 35 = .ok (.ifCond .eq 35, 3) := by decide +kernel
theorem dX9_areLeftSo_38 : decode cX9_areLeftSo 38 = .ok (.aload_n 0, 1) := by decide +kernel
theorem dX9_areLeftSo_39 : decode cX9_areLeftSo 39 = .ok (.iload_n 3, 1) := by decide +kernel
theorem dX9_areLeftSo_40 : decode cX9_areLeftSo 40 = .ok (.iconst 3, 1) := by decide +kernel
theorem dX9_areLeftSo_41 : decode cX9_areLeftSo 41 = .ok (.invokevirtual 120, 3) := by decide +kernel
theorem dX9_areLeftSo_44 : decode cX9_areLeftSo 44 = .ok (.aload_n 0, 1) := by decide +kernel
theorem dX9_areLeftSo_45 : decode cX9_areLeftSo 45 = .ok (.getfield 50, 3) := by decide +kernel
theorem dX9_areLeftSo_48 : decode cX9_areLeftSo 48 = .ok (.bipush 24, 2) := by decide +kernel
theorem dX9_areLeftSo_50 : decode cX9_areLeftSo 50 = .ok (.iload_n 1, 1) := by decide +kernel
theorem dX9_areLeftSo_51 : decode cX9_areLeftSo 51 = .ok (.imul, 1) := by decide +kernel
theorem dX9_areLeftSo_52 : decode cX9_areLeftSo 52 = .ok (.iload_n 3, 1) := by decide +kernel
theorem dX9_areLeftSo_53 : decode cX9_areLeftSo 53 = .ok (.iadd, 1) := by decide +kernel
theorem dX9_areLeftSo_54 : decode cX9_areLeftSo 54 = .ok (.iaload, 1) := by decide +kernel
theorem dX9_areLeftSo_55 : decode cX9_areLeftSo 55 = .ok (.if_icmp .ne 7, 3) := by decide +kernel
theorem dX9_areLeftSo_58 : decode cX9_areLeftSo 58 = .ok (.iconst 1, 1) := by decide +kernel
theorem dX9_areLeftSo_59 : decode cX9_areLeftSo 59 = .ok (.goto 4, 3) := by decide +kernel
theorem dX9_areLeftSo_62 : decode cX9_areLeftSo 62 = .ok (.iconst 0, 1) := by decide +kernel
theorem dX9_areLeftSo_63 : decode cX9_areLeftSo 63 = .ok (.istore_n 2, 1) := by decide +kernel
theorem dX9_areLeftSo_64 : decode cX9_areLeftSo 64 = .ok (.iinc 3 1, 3) := by decide +kernel
theorem dX9_areLeftSo_67 : decode cX9_areLeftSo 67 = .ok (.goto (-43), 3) := by decide +kernel
theorem dX9_areLeftSo_70 : decode cX9_areLeftSo 70 = .ok (.iload_n 2, 1) := by decide +kernel
theorem dX9_areLeftSo_71 : decode cX9_areLeftSo 71 = .ok (.ireturn, 1) := by decide +kernel
theorem dX9_fits_0 : decode cX9_fits 0 = .ok (.aload_n 0, 1) := by decide +kernel
theorem dX9_fits_1 : decode cX9_fits 1 = .ok (.iload_n 1, 1) := by decide +kernel
theorem dX9_fits_2 : decode cX9_fits 2 = .ok (.invokevirtual 204, 3) := by decide +kernel
theorem dX9_fits_5 : decode cX9_fits 5 = .ok (.istore_n 2, 1) := by decide +kernel
theorem dX9_fits_6 : decode cX9_fits 6 = .ok (.iload_n 2, 1) := by decide +kernel
theorem dX9_fits_7 : decode cX9_fits 7 = .ok (.ifCond .eq 9, 3) := by decide +kernel
theorem dX9_fits_10 : decode cX9_fits 10 = .ok (.aload_n 0, 1) := by decide +kernel
theorem dX9_fits_11 : decode cX9_fits 11 = .ok (.iload_n 2, 1) := by decide +kernel
theorem dX9_fits_12 : decode cX9_fits 12 = .ok (.invokevirtual 61, 3) := by decide +kernel
theorem dX9_fits_15 : decode cX9_fits 15 = .ok (.ireturn, 1) := by decide +kernel
theorem dX9_fits_16 : decode cX9_fits 16 = .ok (.aload_n 0, 1) := by decide +kernel
theorem dX9_fits_17 : decode cX9_fits 17 = .ok (.invokevirtual 192, 3) := by decide +kernel
theorem dX9_fits_20 : decode cX9_fits 20 = .ok (.iconst 0, 1) := by decide +kernel
theorem dX9_fits_21 : decode cX9_fits 21 = .ok (.istore_n 3, 1) := by decide +kernel
theorem dX9_fits_22 : decode cX9_fits 22 = .ok (.iload_n 3, 1) := by decide +kernel
theorem dX9_fits_23 : decode cX9_fits 23 = .ok (.bipush 60, 2) := by decide +kernel
theorem dX9_fits_25 : decode cX9_fits 25 = .ok (.if_icmp .gt 23, 3) := by decide +kernel
theorem dX9_fits_28 : decode cX9_fits 28 = .ok (.aload_n 0, 1) := by decide +kernel
theorem dX9_fits_29 : decode cX9_fits 29 = .ok (.iload_n 1, 1) := by decide +kernel
theorem dX9_fits_30 : decode cX9_fits 30 = .ok (.invokevirtual 207, 3) := by decide +kernel
theorem dX9_fits_33 : decode cX9_fits 33 = .ok (.ifCond .ne 15, 3) := by decide +kernel
theorem dX9_fits_36 : decode cX9_fits 36 = .ok (.aload_n 0, 1) := by decide +kernel
theorem dX9_fits_37 : decode cX9_fits 37 = .ok (.invokevirtual 161, 3) := by decide +kernel
theorem dX9_fits_40 : decode cX9_fits 40 = .ok (.istore 4, 2) := by decide +kernel
theorem dX9_fits_42 : decode cX9_fits 42 = .ok (.iinc 3 1, 3) := by decide +kernel
theorem dX9_fits_45 : decode cX9_fits 45 = .ok (.goto (-23), 3) := by decide +kernel
theorem dX9_fits_48 : decode cX9_fits 48 = .ok (.aload_n 0, 1) := by decide +kernel
theorem dX9_fits_49 : decode cX9_fits 49 = .ok (.invokevirtual 195, 3) := by decide +kernel
theorem dX9_fits_52 : decode cX9_fits 52 = .ok (.iload_n 3, 1) := by decide +kernel
theorem dX9_fits_53 : decode cX9_fits 53 = .ok (.bipush 60, 2) := by decide +kernel
theorem dX9_fits_55 : decode cX9_fits 55 = .ok (.if_icmp .le 11, 3) := by decide +kernel
theorem dX9_fits_58 : decode cX9_fits 58 = .ok (.aload_n 0, 1) := by decide +kernel
theorem dX9_fits_59 : decode cX9_fits 59 = .ok (.iconst 2, 1) := by decide +kernel
theorem dX9_fits_60 : decode cX9_fits 60 = .ok (.invokevirtual 61, 3) := by decide +kernel
theorem dX9_fits_63 : decode cX9_fits 63 = .ok (.goto 4, 3) := by decide +kernel
theorem dX9_fits_66 : decode cX9_fits 66 = .ok (.iload_n 3, 1) := by decide +kernel
theorem dX9_fits_67 : decode cX9_fits 67 = .ok (.ireturn, 1) := by decide +kernel
theorem dX9_starts_0 : decode cX9_starts 0 = .ok (.aload_n 0, 1) := by decide +kernel
theorem dX9_starts_1 : decode cX9_starts 1 = .ok (.getfield 210, 3) := by decide +kernel
theorem dX9_starts_4 : decode cX9_starts 4 = .ok (.bipush 30, 2) := by decide +kernel
theorem dX9_starts_6 : decode cX9_starts 6 = .ok (.if_icmp .ge 23, 3) := by decide +kernel
theorem dX9_starts_9 : decode cX9_starts 9 = .ok (.aload_n 0, 1) := by decide +kernel
theorem dX9_starts_10 : decode cX9_starts 10 = .ok (.getfield 41, 3) := by decide +kernel
theorem dX9_starts_13 : decode cX9_starts 13 = .ok (.aload_n 0, 1) := by decide +kernel
theorem dX9_starts_14 : decode cX9_starts 14 = .ok (.getfield 210, 3) := by decide +kernel
theorem dX9_starts_17 : decode cX9_starts 17 = .ok (.iload_n 1, 1) := by decide +kernel
theorem dX9_starts_18 : decode cX9_starts 18 = .ok (.iastore, 1) := by decide +kernel
theorem dX9_starts_19 : decode cX9_starts 19 = .ok (.aload_n 0, 1) := by decide +kernel
theorem dX9_starts_20 : decode cX9_starts 20 = .ok (.dup, 1) := by decide +kernel
theorem dX9_starts_21 : decode cX9_starts 21 = .ok (.getfield 210, 3) := by decide +kernel
theorem dX9_starts_24 : decode cX9_starts 24 = .ok (.iconst 1, 1) := by decide +kernel
theorem dX9_starts_25 : decode cX9_starts 25 = .ok (.iadd, 1) := by decide +kernel
theorem dX9_starts_26 : decode cX9_starts 26 = .ok (.putfield 210, 3) := by decide +kernel
theorem dX9_starts_29 : decode cX9_starts 29 = .ok (.return_, 1) := by decide +kernel
theorem dX9_above_0 : decode cX9_above 0 = .ok (.iload_n 0, 1) := by decide +kernel
theorem dX9_above_1 : decode cX9_above 1 = .ok (.iconst 4, 1) := by decide +kernel
theorem dX9_above_2 : decode cX9_above 2 = .ok (.if_icmp .ne 7, 3) := by decide +kernel
theorem dX9_above_5 : decode cX9_above 5 = .ok (.iconst 1, 1) := by decide +kernel
theorem dX9_above_6 : decode cX9_above 6 = .ok (.goto 13, 3) := by decide +kernel
theorem dX9_above_9 : decode cX9_above 9 = .ok (.iload_n 0, 1) := by decide +kernel
theorem dX9_above_10 : decode cX9_above 10 = .ok (.iconst 5, 1) := by decide +kernel
theorem dX9_above_11 : decode cX9_above 11 = .ok (.if_icmp .ne 7, 3) := by decide +kernel
theorem dX9_above_14 : decode cX9_above 14 = .ok (.iconst 2, 1) := by decide +kernel
theorem dX9_above_15 : decode cX9_above 15 = .ok (.goto 4, 3) := by decide +kernel
theorem dX9_above_18 : decode cX9_above 18 = .ok (.iconst 0, 1) := by decide +kernel
theorem dX9_above_19 : decode cX9_above 19 = .ok (.ireturn, 1) := by decide +kernel
theorem dX9_kindNow_0 : decode cX9_kindNow 0 = .ok (.aload_n 0, 1) := by decide +kernel
theorem dX9_kindNow_1 : decode cX9_kindNow 1 = .ok (.aload_n 0, 1) := by decide +kernel
theorem dX9_kindNow_2 : decode cX9_kindNow 2 = .ok (.getfield 213, 3) := by decide +kernel
theorem dX9_kindNow_5 : decode cX9_kindNow 5 = .ok (.iconst 0, 1) := by decide +kernel
theorem dX9_kindNow_6 : decode cX9_kindNow 6 = .ok (.invokevirtual 120, 3) := by decide +kernel
theorem dX9_kindNow_9 : decode cX9_kindNow 9 = .ok (.ireturn, 1) := by decide +kernel
theorem dX9_mNow_0 : decode cX9_mNow 0 = .ok (.aload_n 0, 1) := by decide +kernel
theorem dX9_mNow_1 : decode cX9_mNow 1 = .ok (.aload_n 0, 1) := by decide +kernel
theorem dX9_mNow_2 : decode cX9_mNow 2 = .ok (.getfield 213, 3) := by decide +kernel
theorem dX9_mNow_5 : decode cX9_mNow 5 = .ok (.iconst 1, 1) := by decide +kernel
theorem dX9_mNow_6 : decode cX9_mNow 6 = .ok (.invokevirtual 120, 3) := by decide +kernel
theorem dX9_mNow_9 : decode cX9_mNow 9 = .ok (.ireturn, 1) := by decide +kernel
theorem dX9_glowsAs_0 : decode cX9_glowsAs 0 = .ok (.iload_n 1, 1) := by decide +kernel
theorem dX9_glowsAs_1 : decode cX9_glowsAs 1 = .ok (.tableswitch 101 0 6 #[43, 56, 101, 101, 74, 101, 92], 43) := by decide +kernel
theorem dX9_glowsAs_44 : decode cX9_glowsAs 44 = .ok (.aload_n 0, 1) := by decide +kernel
theorem dX9_glowsAs_45 : decode cX9_glowsAs 45 = .ok (.bipush 10, 2) := by decide +kernel
theorem dX9_glowsAs_47 : decode cX9_glowsAs 47 = .ok (.invokevirtual 216, 3) := by decide +kernel
theorem dX9_glowsAs_50 : decode cX9_glowsAs 50 = .ok (.iload_n 2, 1) := by decide +kernel
theorem dX9_glowsAs_51 : decode cX9_glowsAs 51 = .ok (.aload_n 0, 1) := by decide +kernel
theorem dX9_glowsAs_52 : decode cX9_glowsAs 52 = .ok (.getfield 213, 3) := by decide +kernel
theorem dX9_glowsAs_55 : decode cX9_glowsAs 55 = .ok (.iadd, 1) := by decide +kernel
theorem dX9_glowsAs_56 : decode cX9_glowsAs 56 = .ok (.ireturn, 1) := by decide +kernel
theorem dX9_glowsAs_57 : decode cX9_glowsAs 57 = .ok (.aload_n 0, 1) := by decide +kernel
theorem dX9_glowsAs_58 : decode cX9_glowsAs 58 = .ok (.bipush 20, 2) := by decide +kernel
theorem dX9_glowsAs_60 : decode cX9_glowsAs 60 = .ok (.invokevirtual 216, 3) := by decide +kernel
theorem dX9_glowsAs_63 : decode cX9_glowsAs 63 = .ok (.aload_n 0, 1) := by decide +kernel
theorem dX9_glowsAs_64 : decode cX9_glowsAs 64 = .ok (.iconst 1, 1) := by decide +kernel
theorem dX9_glowsAs_65 : decode cX9_glowsAs 65 = .ok (.invokestatic 174, 3) := by decide +kernel
theorem dX9_glowsAs_68 : decode cX9_glowsAs 68 = .ok (.iload_n 2, 1) := by decide +kernel
theorem dX9_glowsAs_69 : decode cX9_glowsAs 69 = .ok (.invokevirtual 220, 3) := by decide +kernel
theorem dX9_glowsAs_72 : decode cX9_glowsAs 72 = .ok (.iconst 4, 1) := by decide +kernel
theorem dX9_glowsAs_73 : decode cX9_glowsAs 73 = .ok (.isub, 1) := by decide +kernel
theorem dX9_glowsAs_74 : decode cX9_glowsAs 74 = .ok (.ireturn, 1) := by decide +kernel
theorem dX9_glowsAs_75 : decode cX9_glowsAs 75 = .ok (.aload_n 0, 1) := by decide +kernel
theorem dX9_glowsAs_76 : decode cX9_glowsAs 76 = .ok (.bipush 50, 2) := by decide +kernel
theorem dX9_glowsAs_78 : decode cX9_glowsAs 78 = .ok (.invokevirtual 216, 3) := by decide +kernel
theorem dX9_glowsAs_81 : decode cX9_glowsAs 81 = .ok (.aload_n 0, 1) := by decide +kernel
theorem dX9_glowsAs_82 : decode cX9_glowsAs 82 = .ok (.iconst 4, 1) := by decide +kernel
theorem dX9_glowsAs_83 : decode cX9_glowsAs 83 = .ok (.invokestatic 174, 3) := by decide +kernel
theorem dX9_glowsAs_86 : decode cX9_glowsAs 86 = .ok (.iload_n 2, 1) := by decide +kernel
theorem dX9_glowsAs_87 : decode cX9_glowsAs 87 = .ok (.invokevirtual 220, 3) := by decide +kernel
theorem dX9_glowsAs_90 : decode cX9_glowsAs 90 = .ok (.iconst 3, 1) := by decide +kernel
theorem dX9_glowsAs_91 : decode cX9_glowsAs 91 = .ok (.imul, 1) := by decide +kernel
theorem dX9_glowsAs_92 : decode cX9_glowsAs 92 = .ok (.ireturn, 1) := by decide +kernel
theorem dX9_glowsAs_93 : decode cX9_glowsAs 93 = .ok (.aload_n 0, 1) := by decide +kernel
theorem dX9_glowsAs_94 : decode cX9_glowsAs 94 = .ok (.bipush 70, 2) := by decide +kernel
theorem dX9_glowsAs_96 : decode cX9_glowsAs 96 = .ok (.invokevirtual 216, 3) := by decide +kernel
theorem dX9_glowsAs_99 : decode cX9_glowsAs 99 = .ok (.bipush 9, 2) := by decide +kernel
theorem dX9_glowsAs_101 : decode cX9_glowsAs 101 = .ok (.ireturn, 1) := by decide +kernel
theorem dX9_glowsAs_102 : decode cX9_glowsAs 102 = .ok (.aload_n 0, 1) := by decide +kernel
theorem dX9_glowsAs_103 : decode cX9_glowsAs 103 = .ok (.iload_n 1, 1) := by decide +kernel
theorem dX9_glowsAs_104 : decode cX9_glowsAs 104 = .ok (.invokestatic 174, 3) := by decide +kernel
theorem dX9_glowsAs_107 : decode cX9_glowsAs 107 = .ok (.iload_n 2, 1) := by decide +kernel
theorem dX9_glowsAs_108 : decode cX9_glowsAs 108 = .ok (.invokevirtual 220, 3) := by decide +kernel
theorem dX9_glowsAs_111 : decode cX9_glowsAs 111 = .ok (.ireturn, 1) := by decide +kernel
theorem dX9_turnsAs_0 : decode cX9_turnsAs 0 = .ok (.iload_n 1, 1) := by decide +kernel
theorem dX9_turnsAs_1 : decode cX9_turnsAs 1 = .ok (.tableswitch 119 0 6 #[43, 119, 61, 119, 119, 79, 97], 43) := by decide +kernel
theorem dX9_turnsAs_44 : decode cX9_turnsAs 44 = .ok (.aload_n 0, 1) := by decide +kernel
theorem dX9_turnsAs_45 : decode cX9_turnsAs 45 = .ok (.bipush 11, 2) := by decide +kernel
theorem dX9_turnsAs_47 : decode cX9_turnsAs 47 = .ok (.invokevirtual 216, 3) := by decide +kernel
theorem dX9_turnsAs_50 : decode cX9_turnsAs 50 = .ok (.aload_n 0, 1) := by decide +kernel
theorem dX9_turnsAs_51 : decode cX9_turnsAs 51 = .ok (.aload_n 0, 1) := by decide +kernel
theorem dX9_turnsAs_52 : decode cX9_turnsAs 52 = .ok (.invokevirtual 223, 3) := by decide +kernel
theorem dX9_turnsAs_55 : decode cX9_turnsAs 55 = .ok (.iload_n 2, 1) := by decide +kernel
theorem dX9_turnsAs_56 : decode cX9_turnsAs 56 = .ok (.invokevirtual 220, 3) := by decide +kernel
theorem dX9_turnsAs_59 : decode cX9_turnsAs 59 = .ok (.iconst 2, 1) := by decide +kernel
theorem dX9_turnsAs_60 : decode cX9_turnsAs 60 = .ok (.imul, 1) := by decide +kernel
theorem dX9_turnsAs_61 : decode cX9_turnsAs 61 = .ok (.ireturn, 1) := by decide +kernel
theorem dX9_turnsAs_62 : decode cX9_turnsAs 62 = .ok (.aload_n 0, 1) := by decide +kernel
theorem dX9_turnsAs_63 : decode cX9_turnsAs 63 = .ok (.bipush 30, 2) := by decide +kernel
theorem dX9_turnsAs_65 : decode cX9_turnsAs 65 = .ok (.invokevirtual 216, 3) := by decide +kernel
theorem dX9_turnsAs_68 : decode cX9_turnsAs 68 = .ok (.iconst 0, 1) := by decide +kernel
theorem dX9_turnsAs_69 : decode cX9_turnsAs 69 = .ok (.aload_n 0, 1) := by decide +kernel
theorem dX9_turnsAs_70 : decode cX9_turnsAs 70 = .ok (.iconst 2, 1) := by decide +kernel
theorem dX9_turnsAs_71 : decode cX9_turnsAs 71 = .ok (.invokestatic 174, 3) := by decide +kernel
theorem dX9_turnsAs_74 : decode cX9_turnsAs 74 = .ok (.iload_n 2, 1) := by decide +kernel
theorem dX9_turnsAs_75 : decode cX9_turnsAs 75 = .ok (.invokevirtual 226, 3) := by decide +kernel
theorem dX9_turnsAs_78 : decode cX9_turnsAs 78 = .ok (.isub, 1) := by decide +kernel
theorem dX9_turnsAs_79 : decode cX9_turnsAs 79 = .ok (.ireturn, 1) := by decide +kernel
theorem dX9_turnsAs_80 : decode cX9_turnsAs 80 = .ok (.aload_n 0, 1) := by decide +kernel
theorem dX9_turnsAs_81 : decode cX9_turnsAs 81 = .ok (.bipush 60, 2) := by decide +kernel
theorem dX9_turnsAs_83 : decode cX9_turnsAs 83 = .ok (.invokevirtual 216, 3) := by decide +kernel
theorem dX9_turnsAs_86 : decode cX9_turnsAs 86 = .ok (.aload_n 0, 1) := by decide +kernel
theorem dX9_turnsAs_87 : decode cX9_turnsAs 87 = .ok (.iconst 5, 1) := by decide +kernel
theorem dX9_turnsAs_88 : decode cX9_turnsAs 88 = .ok (.invokestatic 174, 3) := by decide +kernel
theorem dX9_turnsAs_91 : decode cX9_turnsAs 91 = .ok (.iload_n 2, 1) := by decide +kernel
theorem dX9_turnsAs_92 : decode cX9_turnsAs 92 = .ok (.iconst 1, 1) := by decide +kernel
theorem dX9_turnsAs_93 : decode cX9_turnsAs 93 = .ok (.iadd, 1) := by decide +kernel
theorem dX9_turnsAs_94 : decode cX9_turnsAs 94 = .ok (.invokevirtual 226, 3) := by decide +kernel
theorem dX9_turnsAs_97 : decode cX9_turnsAs 97 = .ok (.ireturn, 1) := by decide +kernel
theorem dX9_turnsAs_98 : decode cX9_turnsAs 98 = .ok (.aload_n 0, 1) := by decide +kernel
theorem dX9_turnsAs_99 : decode cX9_turnsAs 99 = .ok (.bipush 71, 2) := by decide +kernel
theorem dX9_turnsAs_101 : decode cX9_turnsAs 101 = .ok (.invokevirtual 216, 3) := by decide +kernel
theorem dX9_turnsAs_104 : decode cX9_turnsAs 104 = .ok (.aload_n 0, 1) := by decide +kernel
theorem dX9_turnsAs_105 : decode cX9_turnsAs 105 = .ok (.bipush 6, 2) := by decide +kernel
theorem dX9_turnsAs_107 : decode cX9_turnsAs 107 = .ok (.invokestatic 174, 3) := by decide +kernel
theorem dX9_turnsAs_110 : decode cX9_turnsAs 110 = .ok (.iload_n 2, 1) := by decide +kernel
theorem dX9_turnsAs_111 : decode cX9_turnsAs 111 = .ok (.invokevirtual 226, 3) := by decide +kernel
theorem dX9_turnsAs_114 : decode cX9_turnsAs 114 = .ok (.aload_n 0, 1) := by decide +kernel
theorem dX9_turnsAs_115 : decode cX9_turnsAs 115 = .ok (.invokevirtual 229, 3) := by decide +kernel
theorem dX9_turnsAs_118 : decode cX9_turnsAs 118 = .ok (.iadd, 1) := by decide +kernel
theorem dX9_turnsAs_119 : decode cX9_turnsAs 119 = .ok (.ireturn, 1) := by decide +kernel
theorem dX9_turnsAs_120 : decode cX9_turnsAs 120 = .ok (.aload_n 0, 1) := by decide +kernel
theorem dX9_turnsAs_121 : decode cX9_turnsAs 121 = .ok (.iload_n 1, 1) := by decide +kernel
theorem dX9_turnsAs_122 : decode cX9_turnsAs 122 = .ok (.invokestatic 174, 3) := by decide +kernel
theorem dX9_turnsAs_125 : decode cX9_turnsAs 125 = .ok (.iload_n 2, 1) := by decide +kernel
theorem dX9_turnsAs_126 : decode cX9_turnsAs 126 = .ok (.invokevirtual 226, 3) := by decide +kernel
theorem dX9_turnsAs_129 : decode cX9_turnsAs 129 = .ok (.ireturn, 1) := by decide +kernel
theorem dX9_guttersAs_0 : decode cX9_guttersAs 0 = .ok (.iload_n 1, 1) := by decide +kernel
theorem dX9_guttersAs_1 : decode cX9_guttersAs 1 = .ok (.tableswitch 95 0 4 #[35, 95, 95, 56, 74], 35) := by decide +kernel
theorem dX9_guttersAs_36 : decode cX9_guttersAs 36 = .ok (.aload_n 0, 1) := by decide +kernel
theorem dX9_guttersAs_37 : decode cX9_guttersAs 37 = .ok (.bipush 12, 2) := by decide +kernel
theorem dX9_guttersAs_39 : decode cX9_guttersAs 39 = .ok (.invokevirtual 216, 3) := by decide +kernel
theorem dX9_guttersAs_42 : decode cX9_guttersAs 42 = .ok (.aload_n 0, 1) := by decide +kernel
theorem dX9_guttersAs_43 : decode cX9_guttersAs 43 = .ok (.aload_n 0, 1) := by decide +kernel
theorem dX9_guttersAs_44 : decode cX9_guttersAs 44 = .ok (.invokevirtual 223, 3) := by decide +kernel
theorem dX9_guttersAs_47 : decode cX9_guttersAs 47 = .ok (.iload_n 2, 1) := by decide +kernel
theorem dX9_guttersAs_48 : decode cX9_guttersAs 48 = .ok (.invokevirtual 226, 3) := by decide +kernel
theorem dX9_guttersAs_51 : decode cX9_guttersAs 51 = .ok (.aload_n 0, 1) := by decide +kernel
theorem dX9_guttersAs_52 : decode cX9_guttersAs 52 = .ok (.invokevirtual 229, 3) := by decide +kernel
theorem dX9_guttersAs_55 : decode cX9_guttersAs 55 = .ok (.isub, 1) := by decide +kernel
theorem dX9_guttersAs_56 : decode cX9_guttersAs 56 = .ok (.ireturn, 1) := by decide +kernel
theorem dX9_guttersAs_57 : decode cX9_guttersAs 57 = .ok (.aload_n 0, 1) := by decide +kernel
theorem dX9_guttersAs_58 : decode cX9_guttersAs 58 = .ok (.bipush 40, 2) := by decide +kernel
theorem dX9_guttersAs_60 : decode cX9_guttersAs 60 = .ok (.invokevirtual 216, 3) := by decide +kernel
theorem dX9_guttersAs_63 : decode cX9_guttersAs 63 = .ok (.aload_n 0, 1) := by decide +kernel
theorem dX9_guttersAs_64 : decode cX9_guttersAs 64 = .ok (.iconst 3, 1) := by decide +kernel
theorem dX9_guttersAs_65 : decode cX9_guttersAs 65 = .ok (.invokestatic 174, 3) := by decide +kernel
theorem dX9_guttersAs_68 : decode cX9_guttersAs 68 = .ok (.iload_n 2, 1) := by decide +kernel
theorem dX9_guttersAs_69 : decode cX9_guttersAs 69 = .ok (.iconst 2, 1) := by decide +kernel
theorem dX9_guttersAs_70 : decode cX9_guttersAs 70 = .ok (.idiv, 1) := by decide +kernel
theorem dX9_guttersAs_71 : decode cX9_guttersAs 71 = .ok (.invokevirtual 232, 3) := by decide +kernel
theorem dX9_guttersAs_74 : decode cX9_guttersAs 74 = .ok (.ireturn, 1) := by decide +kernel
theorem dX9_guttersAs_75 : decode cX9_guttersAs 75 = .ok (.aload_n 0, 1) := by decide +kernel
theorem dX9_guttersAs_76 : decode cX9_guttersAs 76 = .ok (.bipush 51, 2) := by decide +kernel
theorem dX9_guttersAs_78 : decode cX9_guttersAs 78 = .ok (.invokevirtual 216, 3) := by decide +kernel
theorem dX9_guttersAs_81 : decode cX9_guttersAs 81 = .ok (.aload_n 0, 1) := by decide +kernel
theorem dX9_guttersAs_82 : decode cX9_guttersAs 82 = .ok (.iconst 4, 1) := by decide +kernel
theorem dX9_guttersAs_83 : decode cX9_guttersAs 83 = .ok (.invokestatic 174, 3) := by decide +kernel
theorem dX9_guttersAs_86 : decode cX9_guttersAs 86 = .ok (.iload_n 2, 1) := by decide +kernel
theorem dX9_guttersAs_87 : decode cX9_guttersAs 87 = .ok (.invokevirtual 232, 3) := by decide +kernel
theorem dX9_guttersAs_90 : decode cX9_guttersAs 90 = .ok (.aload_n 0, 1) := by decide +kernel
theorem dX9_guttersAs_91 : decode cX9_guttersAs 91 = .ok (.getfield 213, 3) := by decide +kernel
theorem dX9_guttersAs_94 : decode cX9_guttersAs 94 = .ok (.ixor, 1) := by decide +kernel
theorem dX9_guttersAs_95 : decode cX9_guttersAs 95 = .ok (.ireturn, 1) := by decide +kernel
theorem dX9_guttersAs_96 : decode cX9_guttersAs 96 = .ok (.aload_n 0, 1) := by decide +kernel
theorem dX9_guttersAs_97 : decode cX9_guttersAs 97 = .ok (.iload_n 1, 1) := by decide +kernel
theorem dX9_guttersAs_98 : decode cX9_guttersAs 98 = .ok (.invokestatic 174, 3) := by decide +kernel
theorem dX9_guttersAs_101 : decode cX9_guttersAs 101 = .ok (.iload_n 2, 1) := by decide +kernel
theorem dX9_guttersAs_102 : decode cX9_guttersAs 102 = .ok (.invokevirtual 232, 3) := by decide +kernel
theorem dX9_guttersAs_105 : decode cX9_guttersAs 105 = .ok (.ireturn, 1) := by decide +kernel
theorem dX9_partsAs_0 : decode cX9_partsAs 0 = .ok (.iload_n 1, 1) := by decide +kernel
theorem dX9_partsAs_1 : decode cX9_partsAs 1 = .ok (.lookupswitch 119 #[(0, 27), (1, 78)], 27) := by decide +kernel
theorem dX9_partsAs_28 : decode cX9_partsAs 28 = .ok (.aload_n 0, 1) := by decide +kernel
theorem dX9_partsAs_29 : decode cX9_partsAs 29 = .ok (.bipush 13, 2) := by decide +kernel
theorem dX9_partsAs_31 : decode cX9_partsAs 31 = .ok (.invokevirtual 216, 3) := by decide +kernel
theorem dX9_partsAs_34 : decode cX9_partsAs 34 = .ok (.aload_n 0, 1) := by decide +kernel
theorem dX9_partsAs_35 : decode cX9_partsAs 35 = .ok (.invokevirtual 229, 3) := by decide +kernel
theorem dX9_partsAs_38 : decode cX9_partsAs 38 = .ok (.aload_n 0, 1) := by decide +kernel
theorem dX9_partsAs_39 : decode cX9_partsAs 39 = .ok (.getfield 213, 3) := by decide +kernel
theorem dX9_partsAs_42 : decode cX9_partsAs 42 = .ok (.isub, 1) := by decide +kernel
theorem dX9_partsAs_43 : decode cX9_partsAs 43 = .ok (.istore_n 3, 1) := by decide +kernel
theorem dX9_partsAs_44 : decode cX9_partsAs 44 = .ok (.aload_n 0, 1) := by decide +kernel
theorem dX9_partsAs_45 : decode cX9_partsAs 45 = .ok (.iload_n 3, 1) := by decide +kernel
theorem dX9_partsAs_46 : decode cX9_partsAs 46 = .ok (.ifCond .ne 7, 3) := by decide +kernel
theorem dX9_partsAs_49 : decode cX9_partsAs 49 = .ok (.iconst 1, 1) := by decide +kernel
theorem dX9_partsAs_50 : decode cX9_partsAs 50 = .ok (.goto 4, 3) := by decide +kernel
theorem dX9_partsAs_53 : decode cX9_partsAs 53 = .ok (.iconst 0, 1) := by decide +kernel
theorem dX9_partsAs_54 : decode cX9_partsAs 54 = .ok (.putfield 235, 3) := by decide +kernel
theorem dX9_partsAs_57 : decode cX9_partsAs 57 = .ok (.iload_n 3, 1) := by decide +kernel
theorem dX9_partsAs_58 : decode cX9_partsAs 58 = .ok (.ifCond .ne 7, 3) := by decide +kernel
theorem dX9_partsAs_61 : decode cX9_partsAs 61 = .ok (.iconst 0, 1) := by decide +kernel
theorem dX9_partsAs_62 : decode cX9_partsAs 62 = .ok (.goto 16, 3) := by decide +kernel
theorem dX9_partsAs_65 : decode cX9_partsAs 65 = .ok (.iload_n 3, 1) := by decide +kernel
theorem dX9_partsAs_66 : decode cX9_partsAs 66 = .ok (.iconst (-1), 1) := by decide +kernel
theorem dX9_partsAs_67 : decode cX9_partsAs 67 = .ok (.if_icmp .ne 8, 3) := by decide +kernel
theorem dX9_partsAs_70 : decode cX9_partsAs 70 = .ok (.iload_n 2, 1) := by decide +kernel
theorem dX9_partsAs_71 : decode cX9_partsAs 71 = .ok (.ineg, 1) := by decide +kernel
theorem dX9_partsAs_72 : decode cX9_partsAs 72 = .ok (.goto 6, 3) := by decide +kernel
theorem dX9_partsAs_75 : decode cX9_partsAs 75 = .ok (.iload_n 2, 1) := by decide +kernel
theorem dX9_partsAs_76 : decode cX9_partsAs 76 = .ok (.iload_n 3, 1) := by decide +kernel
theorem dX9_partsAs_77 : decode cX9_partsAs 77 = .ok (.idiv, 1) := by decide +kernel
theorem dX9_partsAs_78 : decode cX9_partsAs 78 = .ok (.ireturn, 1) := by decide +kernel
theorem dX9_partsAs_79 : decode cX9_partsAs 79 = .ok (.aload_n 0, 1) := by decide +kernel
theorem dX9_partsAs_80 : decode cX9_partsAs 80 = .ok (.bipush 21, 2) := by decide +kernel
theorem dX9_partsAs_82 : decode cX9_partsAs 82 = .ok (.invokevirtual 216, 3) := by decide +kernel
theorem dX9_partsAs_85 : decode cX9_partsAs 85 = .ok (.aload_n 0, 1) := by decide +kernel
theorem dX9_partsAs_86 : decode cX9_partsAs 86 = .ok (.iconst 1, 1) := by decide +kernel
theorem dX9_partsAs_87 : decode cX9_partsAs 87 = .ok (.invokestatic 174, 3) := by decide +kernel
theorem dX9_partsAs_90 : decode cX9_partsAs 90 = .ok (.iload_n 2, 1) := by decide +kernel
theorem dX9_partsAs_91 : decode cX9_partsAs 91 = .ok (.invokevirtual 239, 3) := by decide +kernel
theorem dX9_partsAs_94 : decode cX9_partsAs 94 = .ok (.istore 4, 2) := by decide +kernel
theorem dX9_partsAs_96 : decode cX9_partsAs 96 = .ok (.aload_n 0, 1) := by decide +kernel
theorem dX9_partsAs_97 : decode cX9_partsAs 97 = .ok (.getfield 235, 3) := by decide +kernel
theorem dX9_partsAs_100 : decode cX9_partsAs 100 = .ok (.ifCond .eq 7, 3) := by decide +kernel
theorem dX9_partsAs_103 : decode cX9_partsAs 103 = .ok (.iconst 0, 1) := by decide +kernel
theorem dX9_partsAs_104 : decode cX9_partsAs 104 = .ok (.goto 15, 3) := by decide +kernel
theorem dX9_partsAs_107 : decode cX9_partsAs 107 = .ok (.iload 4, 2) := by decide +kernel
theorem dX9_partsAs_109 : decode cX9_partsAs 109 = .ok (.aload_n 0, 1) := by decide +kernel
theorem dX9_partsAs_110 : decode cX9_partsAs 110 = .ok (.aload_n 0, 1) := by decide +kernel
theorem dX9_partsAs_111 : decode cX9_partsAs 111 = .ok (.invokevirtual 223, 3) := by decide +kernel
theorem dX9_partsAs_114 : decode cX9_partsAs 114 = .ok (.iconst 1, 1) := by decide +kernel
theorem dX9_partsAs_115 : decode cX9_partsAs 115 = .ok (.invokevirtual 226, 3) := by decide +kernel
theorem dX9_partsAs_118 : decode cX9_partsAs 118 = .ok (.iadd, 1) := by decide +kernel
theorem dX9_partsAs_119 : decode cX9_partsAs 119 = .ok (.ireturn, 1) := by decide +kernel
theorem dX9_partsAs_120 : decode cX9_partsAs 120 = .ok (.aload_n 0, 1) := by decide +kernel
theorem dX9_partsAs_121 : decode cX9_partsAs 121 = .ok (.iload_n 1, 1) := by decide +kernel
theorem dX9_partsAs_122 : decode cX9_partsAs 122 = .ok (.invokestatic 174, 3) := by decide +kernel
theorem dX9_partsAs_125 : decode cX9_partsAs 125 = .ok (.iload_n 2, 1) := by decide +kernel
theorem dX9_partsAs_126 : decode cX9_partsAs 126 = .ok (.invokevirtual 239, 3) := by decide +kernel
theorem dX9_partsAs_129 : decode cX9_partsAs 129 = .ok (.ireturn, 1) := by decide +kernel
theorem dX9_voice_0 : decode cX9_voice 0 = .ok (.aload_n 0, 1) := by decide +kernel
theorem dX9_voice_1 : decode cX9_voice 1 = .ok (.iload_n 1, 1) := by decide +kernel
theorem dX9_voice_2 : decode cX9_voice 2 = .ok (.invokevirtual 168, 3) := by decide +kernel
theorem dX9_voice_5 : decode cX9_voice 5 = .ok (.ifCond .eq 12, 3) := by decide +kernel
theorem dX9_voice_8 : decode cX9_voice 8 = .ok (.iload_n 2, 1) := by decide +kernel
theorem dX9_voice_9 : decode cX9_voice 9 = .ok (.iconst 0, 1) := by decide +kernel
theorem dX9_voice_10 : decode cX9_voice 10 = .ok (.iconst 3, 1) := by decide +kernel
theorem dX9_voice_11 : decode cX9_voice 11 = .ok (.invokestatic 57, 3) := by decide +kernel
theorem dX9_voice_14 : decode cX9_voice 14 = .ok (.ifCond .ne 9, 3) := by decide +kernel
theorem dX9_voice_17 : decode cX9_voice 17 = .ok (.aload_n 0, 1) := by decide +kernel
theorem dX9_voice_18 : decode cX9_voice 18 = .ok (.iconst 1, 1) := by decide +kernel
theorem dX9_voice_19 : decode cX9_voice 19 = .ok (.invokevirtual 61, 3) := by decide +kernel
theorem dX9_voice_22 : decode cX9_voice 22 = .ok (.ireturn, 1) := by decide +kernel
theorem dX9_voice_23 : decode cX9_voice 23 = .ok (.aload_n 0, 1) := by decide +kernel
theorem dX9_voice_24 : decode cX9_voice 24 = .ok (.iconst 0, 1) := by decide +kernel
theorem dX9_voice_25 : decode cX9_voice 25 = .ok (.putfield 210, 3) := by decide +kernel
theorem dX9_voice_28 : decode cX9_voice 28 = .ok (.aload_n 0, 1) := by decide +kernel
theorem dX9_voice_29 : decode cX9_voice 29 = .ok (.iload_n 1, 1) := by decide +kernel
theorem dX9_voice_30 : decode cX9_voice 30 = .ok (.putfield 213, 3) := by decide +kernel
theorem dX9_voice_33 : decode cX9_voice 33 = .ok (.aload_n 0, 1) := by decide +kernel
theorem dX9_voice_34 : decode cX9_voice 34 = .ok (.iconst 0, 1) := by decide +kernel
theorem dX9_voice_35 : decode cX9_voice 35 = .ok (.putfield 235, 3) := by decide +kernel
theorem dX9_voice_38 : decode cX9_voice 38 = .ok (.aload_n 0, 1) := by decide +kernel
theorem dX9_voice_39 : decode cX9_voice 39 = .ok (.invokevirtual 223, 3) := by decide +kernel
theorem dX9_voice_42 : decode cX9_voice 42 = .ok (.istore 4, 2) := by decide +kernel
theorem dX9_voice_44 : decode cX9_voice 44 = .ok (.iload_n 2, 1) := by decide +kernel
theorem dX9_voice_45 : decode cX9_voice 45 = .ok (.ifCond .ne 13, 3) := by decide +kernel
theorem dX9_voice_48 : decode cX9_voice 48 = .ok (.aload_n 0, 1) := by decide +kernel
theorem dX9_voice_49 : decode cX9_voice 49 = .ok (.iload 4, 2) := by decide +kernel
theorem dX9_voice_51 : decode cX9_voice 51 = .ok (.iload_n 3, 1) := by decide +kernel
theorem dX9_voice_52 : decode cX9_voice 52 = .ok (.invokevirtual 220, 3) := by decide +kernel
theorem dX9_voice_55 : decode cX9_voice 55 = .ok (.goto 40, 3) := by decide +kernel
theorem dX9_voice_58 : decode cX9_voice 58 = .ok (.iload_n 2, 1) := by decide +kernel
theorem dX9_voice_59 : decode cX9_voice 59 = .ok (.iconst 1, 1) := by decide +kernel
theorem dX9_voice_60 : decode cX9_voice 60 = .ok (.if_icmp .ne 13, 3) := by decide +kernel
theorem dX9_voice_63 : decode cX9_voice 63 = .ok (.aload_n 0, 1) := by decide +kernel
theorem dX9_voice_64 : decode cX9_voice 64 = .ok (.iload 4, 2) := by decide +kernel
theorem dX9_voice_66 : decode cX9_voice 66 = .ok (.iload_n 3, 1) := by decide +kernel
theorem dX9_voice_67 : decode cX9_voice 67 = .ok (.invokevirtual 226, 3) := by decide +kernel
theorem dX9_voice_70 : decode cX9_voice 70 = .ok (.goto 25, 3) := by decide +kernel
theorem dX9_voice_73 : decode cX9_voice 73 = .ok (.iload_n 2, 1) := by decide +kernel
theorem dX9_voice_74 : decode cX9_voice 74 = .ok (.iconst 2, 1) := by decide +kernel
theorem dX9_voice_75 : decode cX9_voice 75 = .ok (.if_icmp .ne 13, 3) := by decide +kernel
theorem dX9_voice_78 : decode cX9_voice 78 = .ok (.aload_n 0, 1) := by decide +kernel
theorem dX9_voice_79 : decode cX9_voice 79 = .ok (.iload 4, 2) := by decide +kernel
theorem dX9_voice_81 : decode cX9_voice 81 = .ok (.iload_n 3, 1) := by decide +kernel
theorem dX9_voice_82 : decode cX9_voice 82 = .ok (.invokevirtual 232, 3) := by decide +kernel
theorem dX9_voice_85 : decode cX9_voice 85 = .ok (.goto 10, 3) := by decide +kernel
theorem dX9_voice_88 : decode cX9_voice 88 = .ok (.aload_n 0, 1) := by decide +kernel
theorem dX9_voice_89 : decode cX9_voice 89 = .ok (.iload 4, 2) := by decide +kernel
theorem dX9_voice_91 : decode cX9_voice 91 = .ok (.iload_n 3, 1) := by decide +kernel
theorem dX9_voice_92 : decode cX9_voice 92 = .ok (.invokevirtual 239, 3) := by decide +kernel
theorem dX9_voice_95 : decode cX9_voice 95 = .ok (.istore 5, 2) := by decide +kernel
theorem dX9_voice_97 : decode cX9_voice 97 = .ok (.aload_n 0, 1) := by decide +kernel
theorem dX9_voice_98 : decode cX9_voice 98 = .ok (.getfield 235, 3) := by decide +kernel
theorem dX9_voice_101 : decode cX9_voice 101 = .ok (.ifCond .eq 12, 3) := by decide +kernel
theorem dX9_voice_104 : decode cX9_voice 104 = .ok (.aload_n 0, 1) := by decide +kernel
theorem dX9_voice_105 : decode cX9_voice 105 = .ok (.bipush 6, 2) := by decide +kernel
theorem dX9_voice_107 : decode cX9_voice 107 = .ok (.invokevirtual 61, 3) := by decide +kernel
theorem dX9_voice_110 : decode cX9_voice 110 = .ok (.goto 5, 3) := by decide +kernel
theorem dX9_voice_113 : decode cX9_voice 113 = .ok (.iload 5, 2) := by decide +kernel
theorem dX9_voice_115 : decode cX9_voice 115 = .ok (.ireturn, 1) := by decide +kernel
theorem dX9_body_0 : decode cX9_body 0 = .ok (.iload_n 1, 1) := by decide +kernel
theorem dX9_body_1 : decode cX9_body 1 = .ok (.iconst 0, 1) := by decide +kernel
theorem dX9_body_2 : decode cX9_body 2 = .ok (.aload_n 0, 1) := by decide +kernel
theorem dX9_body_3 : decode cX9_body 3 = .ok (.getfield 210, 3) := by decide +kernel
theorem dX9_body_6 : decode cX9_body 6 = .ok (.iconst 1, 1) := by decide +kernel
theorem dX9_body_7 : decode cX9_body 7 = .ok (.isub, 1) := by decide +kernel
theorem dX9_body_8 : decode cX9_body 8 = .ok (.invokestatic 57, 3) := by decide +kernel
theorem dX9_body_11 : decode cX9_body 11 = .ok (.ifCond .eq 12, 3) := by decide +kernel
theorem dX9_body_14 : decode cX9_body 14 = .ok (.aload_n 0, 1) := by decide +kernel
theorem dX9_body_15 : decode cX9_body 15 = .ok (.getfield 41, 3) := by decide +kernel
theorem dX9_body_18 : decode cX9_body 18 = .ok (.iload_n 1, 1) := by decide +kernel
theorem dX9_body_19 : decode cX9_body 19 = .ok (.iaload, 1) := by decide +kernel
theorem dX9_body_20 : decode cX9_body 20 = .ok (.goto 8, 3) := by decide +kernel
theorem dX9_body_23 : decode cX9_body 23 = .ok (.aload_n 0, 1) := by decide +kernel
theorem dX9_body_24 : decode cX9_body 24 = .ok (.iconst 2, 1) := by decide +kernel
theorem dX9_body_25 : decode cX9_body 25 = .ok (.invokevirtual 61, 3) := by decide +kernel
theorem dX9_body_28 : decode cX9_body 28 = .ok (.ireturn, 1) := by decide +kernel
theorem dX9_isSheet_0 : decode cX9_isSheet 0 = .ok (.iload_n 0, 1) := by decide +kernel
theorem dX9_isSheet_1 : decode cX9_isSheet 1 = .ok (.iconst 0, 1) := by decide +kernel
theorem dX9_isSheet_2 : decode cX9_isSheet 2 = .ok (.iconst 3, 1) := by decide +kernel
theorem dX9_isSheet_3 : decode cX9_isSheet 3 = .ok (.invokestatic 57, 3) := by decide +kernel
theorem dX9_isSheet_6 : decode cX9_isSheet 6 = .ok (.ireturn, 1) := by decide +kernel
theorem dX9_sheet_0 : decode cX9_sheet 0 = .ok (.iload_n 1, 1) := by decide +kernel
theorem dX9_sheet_1 : decode cX9_sheet 1 = .ok (.invokestatic 242, 3) := by decide +kernel
theorem dX9_sheet_4 : decode cX9_sheet 4 = .ok (.ifCond .eq 25, 3) := by decide +kernel
theorem dX9_sheet_7 : decode cX9_sheet 7 = .ok (.iload_n 2, 1) := by decide +kernel
theorem dX9_sheet_8 : decode cX9_sheet 8 = .ok (.ifCond .eq 27, 3) := by decide +kernel
theorem dX9_sheet_11 : decode cX9_sheet 11 = .ok (.iload_n 2, 1) := by decide +kernel
theorem dX9_sheet_12 : decode cX9_sheet 12 = .ok (.bipush 8, 2) := by decide +kernel
theorem dX9_sheet_14 : decode cX9_sheet 14 = .ok (.if_icmp .eq 21, 3) := by decide +kernel
theorem dX9_sheet_17 : decode cX9_sheet 17 = .ok (.iload_n 2, 1) := by decide +kernel
theorem dX9_sheet_18 : decode cX9_sheet 18 = .ok (.bipush 16, 2) := by decide +kernel
theorem dX9_sheet_20 : decode cX9_sheet 20 = .ok (.if_icmp .eq 15, 3) := by decide +kernel
theorem dX9_sheet_23 : decode cX9_sheet 23 = .ok (.iload_n 2, 1) := by decide +kernel
theorem dX9_sheet_24 : decode cX9_sheet 24 = .ok (.bipush 32, 2) := by decide +kernel
theorem dX9_sheet_26 : decode cX9_sheet 26 = .ok (.if_icmp .eq 9, 3) := by decide +kernel
theorem dX9_sheet_29 : decode cX9_sheet 29 = .ok (.aload_n 0, 1) := by decide +kernel
theorem dX9_sheet_30 : decode cX9_sheet 30 = .ok (.iconst 1, 1) := by decide +kernel
theorem dX9_sheet_31 : decode cX9_sheet 31 = .ok (.invokevirtual 61, 3) := by decide +kernel
theorem dX9_sheet_34 : decode cX9_sheet 34 = .ok (.ireturn, 1) := by decide +kernel
theorem dX9_sheet_35 : decode cX9_sheet 35 = .ok (.iload_n 2, 1) := by decide +kernel
theorem dX9_sheet_36 : decode cX9_sheet 36 = .ok (.ifCond .eq 13, 3) := by decide +kernel
theorem dX9_sheet_39 : decode cX9_sheet 39 = .ok (.iload_n 3, 1) := by decide +kernel
theorem dX9_sheet_40 : decode cX9_sheet 40 = .ok (.ifCond .ge 9, 3) := by decide +kernel
theorem dX9_sheet_43 : decode cX9_sheet 43 = .ok (.aload_n 0, 1) := by decide +kernel
theorem dX9_sheet_44 : decode cX9_sheet 44 = .ok (.iconst 3, 1) := by decide +kernel
theorem dX9_sheet_45 : decode cX9_sheet 45 = .ok (.invokevirtual 61, 3) := by decide +kernel
theorem dX9_sheet_48 : decode cX9_sheet 48 = .ok (.ireturn, 1) := by decide +kernel
theorem dX9_sheet_49 : decode cX9_sheet 49 = .ok (.iload_n 2, 1) := by decide +kernel
theorem dX9_sheet_50 : decode cX9_sheet 50 = .ok (.ifCond .eq 15, 3) := by decide +kernel
theorem dX9_sheet_53 : decode cX9_sheet 53 = .ok (.iload_n 3, 1) := by decide +kernel
theorem dX9_sheet_54 : decode cX9_sheet 54 = .ok (.bipush 24, 2) := by decide +kernel
theorem dX9_sheet_56 : decode cX9_sheet 56 = .ok (.if_icmp .le 9, 3) := by decide +kernel
theorem dX9_sheet_59 : decode cX9_sheet 59 = .ok (.aload_n 0, 1) := by decide +kernel
theorem dX9_sheet_60 : decode cX9_sheet 60 = .ok (.iconst 1, 1) := by decide +kernel
theorem dX9_sheet_61 : decode cX9_sheet 61 = .ok (.invokevirtual 61, 3) := by decide +kernel
theorem dX9_sheet_64 : decode cX9_sheet 64 = .ok (.ireturn, 1) := by decide +kernel
theorem dX9_sheet_65 : decode cX9_sheet 65 = .ok (.aload_n 0, 1) := by decide +kernel
theorem dX9_sheet_66 : decode cX9_sheet 66 = .ok (.getfield 44, 3) := by decide +kernel
theorem dX9_sheet_69 : decode cX9_sheet 69 = .ok (.iload_n 1, 1) := by decide +kernel
theorem dX9_sheet_70 : decode cX9_sheet 70 = .ok (.iload_n 2, 1) := by decide +kernel
theorem dX9_sheet_71 : decode cX9_sheet 71 = .ok (.iastore, 1) := by decide +kernel
theorem dX9_sheet_72 : decode cX9_sheet 72 = .ok (.aload_n 0, 1) := by decide +kernel
theorem dX9_sheet_73 : decode cX9_sheet 73 = .ok (.getfield 47, 3) := by decide +kernel
theorem dX9_sheet_76 : decode cX9_sheet 76 = .ok (.iload_n 1, 1) := by decide +kernel
theorem dX9_sheet_77 : decode cX9_sheet 77 = .ok (.iload_n 2, 1) := by decide +kernel
theorem dX9_sheet_78 : decode cX9_sheet 78 = .ok (.ifCond .ne 7, 3) := by decide +kernel
theorem dX9_sheet_81 : decode cX9_sheet 81 = .ok (.iconst 0, 1) := by decide +kernel
theorem dX9_sheet_82 : decode cX9_sheet 82 = .ok (.goto 4, 3) := by decide +kernel
theorem dX9_sheet_85 : decode cX9_sheet 85 = .ok (.iload_n 3, 1) := by decide +kernel
theorem dX9_sheet_86 : decode cX9_sheet 86 = .ok (.iastore, 1) := by decide +kernel
theorem dX9_sheet_87 : decode cX9_sheet 87 = .ok (.iconst 0, 1) := by decide +kernel
theorem dX9_sheet_88 : decode cX9_sheet 88 = .ok (.istore 4, 2) := by decide +kernel
theorem dX9_sheet_90 : decode cX9_sheet 90 = .ok (.iload 4, 2) := by decide +kernel
theorem dX9_sheet_92 : decode cX9_sheet 92 = .ok (.bipush 24, 2) := by decide +kernel
theorem dX9_sheet_94 : decode cX9_sheet 94 = .ok (.if_icmp .ge 22, 3) := by decide +kernel
theorem dX9_sheet_97 : decode cX9_sheet 97 = .ok (.aload_n 0, 1) := by decide +kernel
theorem dX9_sheet_98 : decode cX9_sheet 98 = .ok (.getfield 50, 3) := by decide +kernel
theorem dX9_sheet_101 : decode cX9_sheet 101 = .ok (.bipush 24, 2) := by decide +kernel
theorem dX9_sheet_103 : decode cX9_sheet 103 = .ok (.iload_n 1, 1) := by decide +kernel
theorem dX9_sheet_104 : decode cX9_sheet 104 = .ok (.imul, 1) := by decide +kernel
theorem dX9_sheet_105 : decode cX9_sheet 105 = .ok (.iload 4, 2) := by decide +kernel
theorem dX9_sheet_107 : decode cX9_sheet 107 = .ok (.iadd, 1) := by decide +kernel
theorem dX9_sheet_108 : decode cX9_sheet 108 = .ok (.iconst 0, 1) := by decide +kernel
theorem dX9_sheet_109 : decode cX9_sheet 109 = .ok (.iastore, 1) := by decide +kernel
theorem dX9_sheet_110 : decode cX9_sheet 110 = .ok (.iinc 4 1, 3) := by decide +kernel
theorem dX9_sheet_113 : decode cX9_sheet 113 = .ok (.goto (-23), 3) := by decide +kernel
theorem dX9_sheet_116 : decode cX9_sheet 116 = .ok (.iconst 1, 1) := by decide +kernel
theorem dX9_sheet_117 : decode cX9_sheet 117 = .ok (.ireturn, 1) := by decide +kernel
theorem dX9_put_0 : decode cX9_put 0 = .ok (.iload_n 1, 1) := by decide +kernel
theorem dX9_put_1 : decode cX9_put 1 = .ok (.invokestatic 242, 3) := by decide +kernel
theorem dX9_put_4 : decode cX9_put 4 = .ok (.ifCond .ne 9, 3) := by decide +kernel
theorem dX9_put_7 : decode cX9_put 7 = .ok (.aload_n 0, 1) := by decide +kernel
theorem dX9_put_8 : decode cX9_put 8 = .ok (.iconst 1, 1) := by decide +kernel
theorem dX9_put_9 : decode cX9_put 9 = .ok (.invokevirtual 61, 3) := by decide +kernel
theorem dX9_put_12 : decode cX9_put 12 = .ok (.ireturn, 1) := by decide +kernel
theorem dX9_put_13 : decode cX9_put 13 = .ok (.aload_n 0, 1) := by decide +kernel
theorem dX9_put_14 : decode cX9_put 14 = .ok (.getfield 44, 3) := by decide +kernel
theorem dX9_put_17 : decode cX9_put 17 = .ok (.iload_n 1, 1) := by decide +kernel
theorem dX9_put_18 : decode cX9_put 18 = .ok (.iaload, 1) := by decide +kernel
theorem dX9_put_19 : decode cX9_put 19 = .ok (.ifCond .ne 9, 3) := by decide +kernel
theorem dX9_put_22 : decode cX9_put 22 = .ok (.aload_n 0, 1) := by decide +kernel
theorem dX9_put_23 : decode cX9_put 23 = .ok (.iconst 2, 1) := by decide +kernel
theorem dX9_put_24 : decode cX9_put 24 = .ok (.invokevirtual 61, 3) := by decide +kernel
theorem dX9_put_27 : decode cX9_put 27 = .ok (.ireturn, 1) := by decide +kernel
theorem dX9_put_28 : decode cX9_put 28 = .ok (.iload_n 2, 1) := by decide +kernel
theorem dX9_put_29 : decode cX9_put 29 = .ok (.iconst 0, 1) := by decide +kernel
theorem dX9_put_30 : decode cX9_put 30 = .ok (.aload_n 0, 1) := by decide +kernel
theorem dX9_put_31 : decode cX9_put 31 = .ok (.getfield 47, 3) := by decide +kernel
theorem dX9_put_34 : decode cX9_put 34 = .ok (.iload_n 1, 1) := by decide +kernel
theorem dX9_put_35 : decode cX9_put 35 = .ok (.iaload, 1) := by decide +kernel
theorem dX9_put_36 : decode cX9_put 36 = .ok (.iconst 1, 1) := by decide +kernel
theorem dX9_put_37 : decode cX9_put 37 = .ok (.isub, 1) := by decide +kernel
theorem dX9_put_38 : decode cX9_put 38 = .ok (.invokestatic 57, 3) := by decide +kernel
theorem dX9_put_41 : decode cX9_put 41 = .ok (.ifCond .ne 9, 3) := by decide +kernel
theorem dX9_put_44 : decode cX9_put 44 = .ok (.aload_n 0, 1) := by decide +kernel
theorem dX9_put_45 : decode cX9_put 45 = .ok (.iconst 1, 1) := by decide +kernel
theorem dX9_put_46 : decode cX9_put 46 = .ok (.invokevirtual 61, 3) := by decide +kernel
theorem dX9_put_49 : decode cX9_put 49 = .ok (.ireturn, 1) := by decide +kernel
theorem dX9_put_50 : decode cX9_put 50 = .ok (.bipush 32, 2) := by decide +kernel
theorem dX9_put_52 : decode cX9_put 52 = .ok (.aload_n 0, 1) := by decide +kernel
theorem dX9_put_53 : decode cX9_put 53 = .ok (.getfield 44, 3) := by decide +kernel
theorem dX9_put_56 : decode cX9_put 56 = .ok (.iload_n 1, 1) := by decide +kernel
theorem dX9_put_57 : decode cX9_put 57 = .ok (.iaload, 1) := by decide +kernel
theorem dX9_put_58 : decode cX9_put 58 = .ok (.isub, 1) := by decide +kernel
theorem dX9_put_59 : decode cX9_put 59 = .ok (.istore 4, 2) := by decide +kernel
theorem dX9_put_61 : decode cX9_put 61 = .ok (.aload_n 0, 1) := by decide +kernel
theorem dX9_put_62 : decode cX9_put 62 = .ok (.getfield 50, 3) := by decide +kernel
theorem dX9_put_65 : decode cX9_put 65 = .ok (.bipush 24, 2) := by decide +kernel
theorem dX9_put_67 : decode cX9_put 67 = .ok (.iload_n 1, 1) := by decide +kernel
theorem dX9_put_68 : decode cX9_put 68 = .ok (.imul, 1) := by decide +kernel
theorem dX9_put_69 : decode cX9_put 69 = .ok (.iload_n 2, 1) := by decide +kernel
theorem dX9_put_70 : decode cX9_put 70 = .ok (.iadd, 1) := by decide +kernel
theorem dX9_put_71 : decode cX9_put 71 = .ok (.iload_n 3, 1) := by decide +kernel
theorem dX9_put_72 : decode cX9_put 72 = .ok (.iload 4, 2) := by decide +kernel
theorem dX9_put_74 : decode cX9_put 74 = .ok (.ishl, 1) := by decide +kernel
theorem dX9_put_75 : decode cX9_put 75 = .ok (.iload 4, 2) := by decide +kernel
theorem dX9_put_77 : decode cX9_put 77 = .ok (.ishr, 1) := by decide +kernel
theorem dX9_put_78 : decode cX9_put 78 = .ok (.iastore, 1) := by decide +kernel
theorem dX9_put_79 : decode cX9_put 79 = .ok (.iconst 1, 1) := by decide +kernel
theorem dX9_put_80 : decode cX9_put 80 = .ok (.ireturn, 1) := by decide +kernel
theorem dX9_move_0 : decode cX9_move 0 = .ok (.iload_n 1, 1) := by decide +kernel
theorem dX9_move_1 : decode cX9_move 1 = .ok (.invokestatic 242, 3) := by decide +kernel
theorem dX9_move_4 : decode cX9_move 4 = .ok (.ifCond .eq 10, 3) := by decide +kernel
theorem dX9_move_7 : decode cX9_move 7 = .ok (.iload_n 3, 1) := by decide +kernel
theorem dX9_move_8 : decode cX9_move 8 = .ok (.invokestatic 242, 3) := by decide +kernel
theorem dX9_move_11 : decode cX9_move 11 = .ok (.ifCond .ne 9, 3) := by decide +kernel
theorem dX9_move_14 : decode cX9_move 14 = .ok (.aload_n 0, 1) := by decide +kernel
theorem dX9_move_15 : decode cX9_move 15 = .ok (.iconst 1, 1) := by decide +kernel
theorem dX9_move_16 : decode cX9_move 16 = .ok (.invokevirtual 61, 3) := by decide +kernel
theorem dX9_move_19 : decode cX9_move 19 = .ok (.ireturn, 1) := by decide +kernel
theorem dX9_move_20 : decode cX9_move 20 = .ok (.aload_n 0, 1) := by decide +kernel
theorem dX9_move_21 : decode cX9_move 21 = .ok (.getfield 44, 3) := by decide +kernel
theorem dX9_move_24 : decode cX9_move 24 = .ok (.iload_n 1, 1) := by decide +kernel
theorem dX9_move_25 : decode cX9_move 25 = .ok (.iaload, 1) := by decide +kernel
theorem dX9_move_26 : decode cX9_move 26 = .ok (.ifCond .eq 12, 3) := by decide +kernel
theorem dX9_move_29 : decode cX9_move 29 = .ok (.aload_n 0, 1) := by decide +kernel
theorem dX9_move_30 : decode cX9_move 30 = .ok (.getfield 44, 3) := by decide +kernel
theorem dX9_move_33 : decode cX9_move 33 = .ok (.iload_n 3, 1) := by decide +kernel
theorem dX9_move_34 : decode cX9_move 34 = .ok (.iaload, 1) := by decide +kernel
theorem dX9_move_35 : decode cX9_move 35 = .ok (.ifCond .ne 9, 3) := by decide +kernel
theorem dX9_move_38 : decode cX9_move 38 = .ok (.aload_n 0, 1) := by decide +kernel
theorem dX9_move_39 : decode cX9_move 39 = .ok (.iconst 2, 1) := by decide +kernel
theorem dX9_move_40 : decode cX9_move 40 = .ok (.invokevirtual 61, 3) := by decide +kernel
theorem dX9_move_43 : decode cX9_move 43 = .ok (.ireturn, 1) := by decide +kernel
theorem dX9_move_44 : decode cX9_move 44 = .ok (.aload_n 0, 1) := by decide +kernel
theorem dX9_move_45 : decode cX9_move 45 = .ok (.getfield 44, 3) := by decide +kernel
theorem dX9_move_48 : decode cX9_move 48 = .ok (.iload_n 1, 1) := by decide +kernel
theorem dX9_move_49 : decode cX9_move 49 = .ok (.iaload, 1) := by decide +kernel
theorem dX9_move_50 : decode cX9_move 50 = .ok (.aload_n 0, 1) := by decide +kernel
theorem dX9_move_51 : decode cX9_move 51 = .ok (.getfield 44, 3) := by decide +kernel
theorem dX9_move_54 : decode cX9_move 54 = .ok (.iload_n 3, 1) := by decide +kernel
theorem dX9_move_55 : decode cX9_move 55 = .ok (.iaload, 1) := by decide +kernel
theorem dX9_move_56 : decode cX9_move 56 = .ok (.if_icmp .eq 9, 3) := by decide +kernel
theorem dX9_move_59 : decode cX9_move 59 = .ok (.aload_n 0, 1) := by decide +kernel
theorem dX9_move_60 : decode cX9_move 60 = .ok (.iconst 5, 1) := by decide +kernel
theorem dX9_move_61 : decode cX9_move 61 = .ok (.invokevirtual 61, 3) := by decide +kernel
theorem dX9_move_64 : decode cX9_move 64 = .ok (.ireturn, 1) := by decide +kernel
theorem dX9_move_65 : decode cX9_move 65 = .ok (.iload 5, 2) := by decide +kernel
theorem dX9_move_67 : decode cX9_move 67 = .ok (.ifCond .lt 39, 3) := by decide +kernel
theorem dX9_move_70 : decode cX9_move 70 = .ok (.iload_n 2, 1) := by decide +kernel
theorem dX9_move_71 : decode cX9_move 71 = .ok (.ifCond .lt 35, 3) := by decide +kernel
theorem dX9_move_74 : decode cX9_move 74 = .ok (.iload 4, 2) := by decide +kernel
theorem dX9_move_76 : decode cX9_move 76 = .ok (.ifCond .lt 30, 3) := by decide +kernel
theorem dX9_move_79 : decode cX9_move 79 = .ok (.iload_n 2, 1) := by decide +kernel
theorem dX9_move_80 : decode cX9_move 80 = .ok (.aload_n 0, 1) := by decide +kernel
theorem dX9_move_81 : decode cX9_move 81 = .ok (.getfield 47, 3) := by decide +kernel
theorem dX9_move_84 : decode cX9_move 84 = .ok (.iload_n 1, 1) := by decide +kernel
theorem dX9_move_85 : decode cX9_move 85 = .ok (.iaload, 1) := by decide +kernel
theorem dX9_move_86 : decode cX9_move 86 = .ok (.iload 5, 2) := by decide +kernel
theorem dX9_move_88 : decode cX9_move 88 = .ok (.isub, 1) := by decide +kernel
theorem dX9_move_89 : decode cX9_move 89 = .ok (.if_icmp .gt 17, 3) := by decide +kernel
theorem dX9_move_92 : decode cX9_move 92 = .ok (.iload 4, 2) := by decide +kernel
theorem dX9_move_94 : decode cX9_move 94 = .ok (.aload_n 0, 1) := by decide +kernel
theorem dX9_move_95 : decode cX9_move 95 = .ok (.getfield 47, 3) := by decide +kernel
theorem dX9_move_98 : decode cX9_move 98 = .ok (.iload_n 3, 1) := by decide +kernel
theorem dX9_move_99 : decode cX9_move 99 = .ok (.iaload, 1) := by decide +kernel
theorem dX9_move_100 : decode cX9_move 100 = .ok (.iload 5, 2) := by decide +kernel
theorem dX9_move_102 : decode cX9_move 102 = .ok (.isub, 1) := by decide +kernel
theorem dX9_move_103 : decode cX9_move 103 = .ok (.if_icmp .le 9, 3) := by decide +kernel
theorem dX9_move_106 : decode cX9_move 106 = .ok (.aload_n 0, 1) := by decide +kernel
theorem dX9_move_107 : decode cX9_move 107 = .ok (.iconst 1, 1) := by decide +kernel
theorem dX9_move_108 : decode cX9_move 108 = .ok (.invokevirtual 61, 3) := by decide +kernel
theorem dX9_move_111 : decode cX9_move 111 = .ok (.ireturn, 1) := by decide +kernel
theorem dX9_move_112 : decode cX9_move 112 = .ok (.iconst 0, 1) := by decide +kernel
theorem dX9_move_113 : decode cX9_move 113 = .ok (.istore 6, 2) := by decide +kernel
theorem dX9_move_115 : decode cX9_move 115 = .ok (.iload 6, 2) := by decide +kernel
theorem dX9_move_117 : decode cX9_move 117 = .ok (.iload 5, 2) := by decide +kernel
theorem dX9_move_119 : decode cX9_move 119 = .ok (.if_icmp .ge 30, 3) := by decide +kernel
theorem dX9_move_122 : decode cX9_move 122 = .ok (.aload_n 0, 1) := by decide +kernel
theorem dX9_move_123 : decode cX9_move 123 = .ok (.getfield 53, 3) := by decide +kernel
theorem dX9_move_126 : decode cX9_move 126 = .ok (.iload 6, 2) := by decide +kernel
theorem dX9_move_128 : decode cX9_move 128 = .ok (.aload_n 0, 1) := by decide +kernel
theorem dX9_move_129 : decode cX9_move 129 = .ok (.getfield 50, 3) := by decide +kernel
theorem dX9_move_132 : decode cX9_move 132 = .ok (.bipush 24, 2) := by decide +kernel
theorem dX9_move_134 : decode cX9_move 134 = .ok (.iload_n 1, 1) := by decide +kernel
theorem dX9_move_135 : decode cX9_move 135 = .ok (.imul, 1) := by decide +kernel
theorem dX9_move_136 : decode cX9_move 136 = .ok (.iload_n 2, 1) := by decide +kernel
theorem dX9_move_137 : decode cX9_move 137 = .ok (.iadd, 1) := by decide +kernel
theorem dX9_move_138 : decode cX9_move 138 = .ok (.iload 6, 2) := by decide +kernel
theorem dX9_move_140 : decode cX9_move 140 = .ok (.iadd, 1) := by decide +kernel
theorem dX9_move_141 : decode cX9_move 141 = .ok (.iaload, 1) := by decide +kernel
theorem dX9_move_142 : decode cX9_move 142 = .ok (.iastore, 1) := by decide +kernel
theorem dX9_move_143 : decode cX9_move 143 = .ok (.iinc 6 1, 3) := by decide +kernel
theorem dX9_move_146 : decode cX9_move 146 = .ok (.goto (-31), 3) := by decide +kernel
theorem dX9_move_149 : decode cX9_move 149 = .ok (.iconst 0, 1) := by decide +kernel
theorem dX9_move_150 : decode cX9_move 150 = .ok (.istore 6, 2) := by decide +kernel
theorem dX9_move_152 : decode cX9_move 152 = .ok (.iload 6, 2) := by decide +kernel
theorem dX9_move_154 : decode cX9_move 154 = .ok (.iload 5, 2) := by decide +kernel
theorem dX9_move_156 : decode cX9_move 156 = .ok (.if_icmp .ge 31, 3) := by decide +kernel
theorem dX9_move_159 : decode cX9_move 159 = .ok (.aload_n 0, 1) := by decide +kernel
theorem dX9_move_160 : decode cX9_move 160 = .ok (.getfield 50, 3) := by decide +kernel
theorem dX9_move_163 : decode cX9_move 163 = .ok (.bipush 24, 2) := by decide +kernel
theorem dX9_move_165 : decode cX9_move 165 = .ok (.iload_n 3, 1) := by decide +kernel
theorem dX9_move_166 : decode cX9_move 166 = .ok (.imul, 1) := by decide +kernel
theorem dX9_move_167 : decode cX9_move 167 = .ok (.iload 4, 2) := by decide +kernel
theorem dX9_move_169 : decode cX9_move 169 = .ok (.iadd, 1) := by decide +kernel
theorem dX9_move_170 : decode cX9_move 170 = .ok (.iload 6, 2) := by decide +kernel
theorem dX9_move_172 : decode cX9_move 172 = .ok (.iadd, 1) := by decide +kernel
theorem dX9_move_173 : decode cX9_move 173 = .ok (.aload_n 0, 1) := by decide +kernel
theorem dX9_move_174 : decode cX9_move 174 = .ok (.getfield 53, 3) := by decide +kernel
theorem dX9_move_177 : decode cX9_move 177 = .ok (.iload 6, 2) := by decide +kernel
theorem dX9_move_179 : decode cX9_move 179 = .ok (.iaload, 1) := by decide +kernel
theorem dX9_move_180 : decode cX9_move 180 = .ok (.iastore, 1) := by decide +kernel
theorem dX9_move_181 : decode cX9_move 181 = .ok (.iinc 6 1, 3) := by decide +kernel
theorem dX9_move_184 : decode cX9_move 184 = .ok (.goto (-32), 3) := by decide +kernel
theorem dX9_move_187 : decode cX9_move 187 = .ok (.iload 5, 2) := by decide +kernel
theorem dX9_move_189 : decode cX9_move 189 = .ok (.ireturn, 1) := by decide +kernel
theorem dX9_lacks_0 : decode cX9_lacks 0 = .ok (.iload_n 1, 1) := by decide +kernel
theorem dX9_lacks_1 : decode cX9_lacks 1 = .ok (.invokestatic 242, 3) := by decide +kernel
theorem dX9_lacks_4 : decode cX9_lacks 4 = .ok (.ifCond .ne 7, 3) := by decide +kernel
theorem dX9_lacks_7 : decode cX9_lacks 7 = .ok (.iconst 1, 1) := by decide +kernel
theorem dX9_lacks_8 : decode cX9_lacks 8 = .ok (.goto 17, 3) := by decide +kernel
theorem dX9_lacks_11 : decode cX9_lacks 11 = .ok (.aload_n 0, 1) := by decide +kernel
theorem dX9_lacks_12 : decode cX9_lacks 12 = .ok (.getfield 44, 3) := by decide +kernel
theorem dX9_lacks_15 : decode cX9_lacks 15 = .ok (.iload_n 1, 1) := by decide +kernel
theorem dX9_lacks_16 : decode cX9_lacks 16 = .ok (.iaload, 1) := by decide +kernel
theorem dX9_lacks_17 : decode cX9_lacks 17 = .ok (.ifCond .ne 7, 3) := by decide +kernel
theorem dX9_lacks_20 : decode cX9_lacks 20 = .ok (.iconst 2, 1) := by decide +kernel
theorem dX9_lacks_21 : decode cX9_lacks 21 = .ok (.goto 4, 3) := by decide +kernel
theorem dX9_lacks_24 : decode cX9_lacks 24 = .ok (.iconst 0, 1) := by decide +kernel
theorem dX9_lacks_25 : decode cX9_lacks 25 = .ok (.ireturn, 1) := by decide +kernel
theorem dX9_dears_0 : decode cX9_dears 0 = .ok (.aload_n 0, 1) := by decide +kernel
theorem dX9_dears_1 : decode cX9_dears 1 = .ok (.iload_n 1, 1) := by decide +kernel
theorem dX9_dears_2 : decode cX9_dears 2 = .ok (.invokevirtual 204, 3) := by decide +kernel
theorem dX9_dears_5 : decode cX9_dears 5 = .ok (.istore_n 2, 1) := by decide +kernel
theorem dX9_dears_6 : decode cX9_dears 6 = .ok (.iload_n 2, 1) := by decide +kernel
theorem dX9_dears_7 : decode cX9_dears 7 = .ok (.ifCond .eq 9, 3) := by decide +kernel
theorem dX9_dears_10 : decode cX9_dears 10 = .ok (.aload_n 0, 1) := by decide +kernel
theorem dX9_dears_11 : decode cX9_dears 11 = .ok (.iload_n 2, 1) := by decide +kernel
theorem dX9_dears_12 : decode cX9_dears 12 = .ok (.invokevirtual 61, 3) := by decide +kernel
theorem dX9_dears_15 : decode cX9_dears 15 = .ok (.ireturn, 1) := by decide +kernel
theorem dX9_dears_16 : decode cX9_dears 16 = .ok (.iconst 0, 1) := by decide +kernel
theorem dX9_dears_17 : decode cX9_dears 17 = .ok (.istore_n 3, 1) := by decide +kernel
theorem dX9_dears_18 : decode cX9_dears 18 = .ok (.iload_n 3, 1) := by decide +kernel
theorem dX9_dears_19 : decode cX9_dears 19 = .ok (.aload_n 0, 1) := by decide +kernel
theorem dX9_dears_20 : decode cX9_dears 20 = .ok (.getfield 47, 3) := by decide +kernel
theorem dX9_dears_23 : decode cX9_dears 23 = .ok (.iload_n 1, 1) := by decide +kernel
theorem dX9_dears_24 : decode cX9_dears 24 = .ok (.iaload, 1) := by decide +kernel
theorem dX9_dears_25 : decode cX9_dears 25 = .ok (.if_icmp .ge 54, 3) := by decide +kernel
theorem dX9_dears_28 : decode cX9_dears 28 = .ok (.aload_n 0, 1) := by decide +kernel
theorem dX9_dears_29 : decode cX9_dears 29 = .ok (.iload_n 3, 1) := by decide +kernel
theorem dX9_dears_30 : decode cX9_dears 30 = .ok (.invokevirtual 168, 3) := by decide +kernel
theorem dX9_dears_33 : decode cX9_dears 33 = .ok (.ifCond .eq 46, 3) := by decide +kernel
theorem dX9_dears_36 : decode cX9_dears 36 = .ok (.aload_n 0, 1) := by decide +kernel
theorem dX9_dears_37 : decode cX9_dears 37 = .ok (.getfield 50, 3) := by decide +kernel
theorem dX9_dears_40 : decode cX9_dears 40 = .ok (.bipush 24, 2) := by decide +kernel
theorem dX9_dears_42 : decode cX9_dears 42 = .ok (.iload_n 1, 1) := by decide +kernel
theorem dX9_dears_43 : decode cX9_dears 43 = .ok (.imul, 1) := by decide +kernel
theorem dX9_dears_44 : decode cX9_dears 44 = .ok (.iload_n 3, 1) := by decide +kernel
theorem dX9_dears_45 : decode cX9_dears 45 = .ok (.iadd, 1) := by decide +kernel
theorem dX9_dears_46 : decode cX9_dears 46 = .ok (.iaload, 1) := by decide +kernel
theorem dX9_dears_47 : decode cX9_dears 47 = .ok (.iconst 0, 1) := by decide +kernel
theorem dX9_dears_48 : decode cX9_dears 48 = .ok (.bipush 99, 2) := by decide +kernel
theorem dX9_dears_50 : decode cX9_dears 50 = .ok (.invokestatic 57, 3) := by decide +kernel
theorem dX9_dears_53 : decode cX9_dears 53 = .ok (.ifCond .eq 26, 3) := by decide +kernel
theorem dX9_dears_56 : decode cX9_dears 56 = .ok (.aload_n 0, 1) := by decide +kernel
theorem dX9_dears_57 : decode cX9_dears 57 = .ok (.iload_n 3, 1) := by decide +kernel
theorem dX9_dears_58 : decode cX9_dears 58 = .ok (.iconst 4, 1) := by decide +kernel
theorem dX9_dears_59 : decode cX9_dears 59 = .ok (.aload_n 0, 1) := by decide +kernel
theorem dX9_dears_60 : decode cX9_dears 60 = .ok (.getfield 50, 3) := by decide +kernel
theorem dX9_dears_63 : decode cX9_dears 63 = .ok (.bipush 24, 2) := by decide +kernel
theorem dX9_dears_65 : decode cX9_dears 65 = .ok (.iload_n 1, 1) := by decide +kernel
theorem dX9_dears_66 : decode cX9_dears 66 = .ok (.imul, 1) := by decide +kernel
theorem dX9_dears_67 : decode cX9_dears 67 = .ok (.iload_n 3, 1) := by decide +kernel
theorem dX9_dears_68 : decode cX9_dears 68 = .ok (.iadd, 1) := by decide +kernel
theorem dX9_dears_69 : decode cX9_dears 69 = .ok (.iaload, 1) := by decide +kernel
theorem dX9_dears_70 : decode cX9_dears 70 = .ok (.invokevirtual 157, 3) := by decide +kernel
theorem dX9_dears_73 : decode cX9_dears 73 = .ok (.iinc 3 1, 3) := by decide +kernel
theorem dX9_dears_76 : decode cX9_dears 76 = .ok (.goto (-58), 3) := by decide +kernel
theorem dX9_dears_79 : decode cX9_dears 79 = .ok (.iload_n 3, 1) := by decide +kernel
theorem dX9_dears_80 : decode cX9_dears 80 = .ok (.ireturn, 1) := by decide +kernel
theorem dX9_judge_0 : decode cX9_judge 0 = .ok (.aload_n 0, 1) := by decide +kernel
theorem dX9_judge_1 : decode cX9_judge 1 = .ok (.iload_n 1, 1) := by decide +kernel
theorem dX9_judge_2 : decode cX9_judge 2 = .ok (.invokevirtual 204, 3) := by decide +kernel
theorem dX9_judge_5 : decode cX9_judge 5 = .ok (.istore_n 2, 1) := by decide +kernel
theorem dX9_judge_6 : decode cX9_judge 6 = .ok (.iload_n 2, 1) := by decide +kernel
theorem dX9_judge_7 : decode cX9_judge 7 = .ok (.ifCond .eq 9, 3) := by decide +kernel
theorem dX9_judge_10 : decode cX9_judge 10 = .ok (.aload_n 0, 1) := by decide +kernel
theorem dX9_judge_11 : decode cX9_judge 11 = .ok (.iload_n 2, 1) := by decide +kernel
theorem dX9_judge_12 : decode cX9_judge 12 = .ok (.invokevirtual 61, 3) := by decide +kernel
theorem dX9_judge_15 : decode cX9_judge 15 = .ok (.ireturn, 1) := by decide +kernel
theorem dX9_judge_16 : decode cX9_judge 16 = .ok (.iconst 0, 1) := by decide +kernel
theorem dX9_judge_17 : decode cX9_judge 17 = .ok (.istore_n 3, 1) := by decide +kernel
theorem dX9_judge_18 : decode cX9_judge 18 = .ok (.iload_n 3, 1) := by decide +kernel
theorem dX9_judge_19 : decode cX9_judge 19 = .ok (.aload_n 0, 1) := by decide +kernel
theorem dX9_judge_20 : decode cX9_judge 20 = .ok (.getfield 47, 3) := by decide +kernel
theorem dX9_judge_23 : decode cX9_judge 23 = .ok (.iload_n 1, 1) := by decide +kernel
theorem dX9_judge_24 : decode cX9_judge 24 = .ok (.iaload, 1) := by decide +kernel
theorem dX9_judge_25 : decode cX9_judge 25 = .ok (.if_icmp .ge 42, 3) := by decide +kernel
theorem dX9_judge_28 : decode cX9_judge 28 = .ok (.aload_n 0, 1) := by decide +kernel
theorem dX9_judge_29 : decode cX9_judge 29 = .ok (.iload_n 3, 1) := by decide +kernel
theorem dX9_judge_30 : decode cX9_judge 30 = .ok (.invokevirtual 168, 3) := by decide +kernel
theorem dX9_judge_33 : decode cX9_judge 33 = .ok (.ifCond .eq 34, 3) := by decide +kernel
theorem dX9_judge_36 : decode cX9_judge 36 = .ok (.aload_n 0, 1) := by decide +kernel
theorem dX9_judge_37 : decode cX9_judge 37 = .ok (.iload_n 3, 1) := by decide +kernel
theorem dX9_judge_38 : decode cX9_judge 38 = .ok (.aload_n 0, 1) := by decide +kernel
theorem dX9_judge_39 : decode cX9_judge 39 = .ok (.iload_n 3, 1) := by decide +kernel
theorem dX9_judge_40 : decode cX9_judge 40 = .ok (.iconst 2, 1) := by decide +kernel
theorem dX9_judge_41 : decode cX9_judge 41 = .ok (.invokevirtual 120, 3) := by decide +kernel
theorem dX9_judge_44 : decode cX9_judge 44 = .ok (.invokevirtual 139, 3) := by decide +kernel
theorem dX9_judge_47 : decode cX9_judge 47 = .ok (.aload_n 0, 1) := by decide +kernel
theorem dX9_judge_48 : decode cX9_judge 48 = .ok (.getfield 50, 3) := by decide +kernel
theorem dX9_judge_51 : decode cX9_judge 51 = .ok (.bipush 24, 2) := by decide +kernel
theorem dX9_judge_53 : decode cX9_judge 53 = .ok (.iload_n 1, 1) := by decide +kernel
theorem dX9_judge_54 : decode cX9_judge 54 = .ok (.imul, 1) := by decide +kernel
theorem dX9_judge_55 : decode cX9_judge 55 = .ok (.iload_n 3, 1) := by decide +kernel
theorem dX9_judge_56 : decode cX9_judge 56 = .ok (.iadd, 1) := by decide +kernel
theorem dX9_judge_57 : decode cX9_judge 57 = .ok (.iaload, 1) := by decide +kernel
theorem dX9_judge_58 : decode cX9_judge 58 = .ok (.if_icmp .ne 9, 3) := by decide +kernel
theorem dX9_judge_61 : decode cX9_judge 61 = .ok (.iinc 3 1, 3) := by decide +kernel
theorem dX9_judge_64 : decode cX9_judge 64 = .ok (.goto (-46), 3) := by decide +kernel
theorem dX9_judge_67 : decode cX9_judge 67 = .ok (.iload_n 3, 1) := by decide +kernel
theorem dX9_judge_68 : decode cX9_judge 68 = .ok (.ireturn, 1) := by decide +kernel
theorem dX9_image_0 : decode cX9_image 0 = .ok (.aload_n 0, 1) := by decide +kernel
theorem dX9_image_1 : decode cX9_image 1 = .ok (.getfield 7, 3) := by decide +kernel
theorem dX9_image_4 : decode cX9_image 4 = .ok (.aload_n 0, 1) := by decide +kernel
theorem dX9_image_5 : decode cX9_image 5 = .ok (.getfield 13, 3) := by decide +kernel
theorem dX9_image_8 : decode cX9_image 8 = .ok (.invokestatic 245, 3) := by decide +kernel
theorem dX9_image_11 : decode cX9_image 11 = .ok (.aload_n 0, 1) := by decide +kernel
theorem dX9_image_12 : decode cX9_image 12 = .ok (.dup, 1) := by decide +kernel
theorem dX9_image_13 : decode cX9_image 13 = .ok (.getfield 249, 3) := by decide +kernel
theorem dX9_image_16 : decode cX9_image 16 = .ok (.iconst 1, 1) := by decide +kernel
theorem dX9_image_17 : decode cX9_image 17 = .ok (.iadd, 1) := by decide +kernel
theorem dX9_image_18 : decode cX9_image 18 = .ok (.putfield 249, 3) := by decide +kernel
theorem dX9_image_21 : decode cX9_image 21 = .ok (.aload_n 0, 1) := by decide +kernel
theorem dX9_image_22 : decode cX9_image 22 = .ok (.getfield 249, 3) := by decide +kernel
theorem dX9_image_25 : decode cX9_image 25 = .ok (.ireturn, 1) := by decide +kernel
theorem dX9_restore_0 : decode cX9_restore 0 = .ok (.aload_n 0, 1) := by decide +kernel
theorem dX9_restore_1 : decode cX9_restore 1 = .ok (.getfield 249, 3) := by decide +kernel
theorem dX9_restore_4 : decode cX9_restore 4 = .ok (.ifCond .ne 9, 3) := by decide +kernel
theorem dX9_restore_7 : decode cX9_restore 7 = .ok (.aload_n 0, 1) := by decide +kernel
theorem dX9_restore_8 : decode cX9_restore 8 = .ok (.iconst 2, 1) := by decide +kernel
theorem dX9_restore_9 : decode cX9_restore 9 = .ok (.invokevirtual 61, 3) := by decide +kernel
theorem dX9_restore_12 : decode cX9_restore 12 = .ok (.ireturn, 1) := by decide +kernel
theorem dX9_restore_13 : decode cX9_restore 13 = .ok (.aload_n 0, 1) := by decide +kernel
theorem dX9_restore_14 : decode cX9_restore 14 = .ok (.getfield 13, 3) := by decide +kernel
theorem dX9_restore_17 : decode cX9_restore 17 = .ok (.aload_n 0, 1) := by decide +kernel
theorem dX9_restore_18 : decode cX9_restore 18 = .ok (.getfield 7, 3) := by decide +kernel
theorem dX9_restore_21 : decode cX9_restore 21 = .ok (.invokestatic 245, 3) := by decide +kernel
theorem dX9_restore_24 : decode cX9_restore 24 = .ok (.aload_n 0, 1) := by decide +kernel
theorem dX9_restore_25 : decode cX9_restore 25 = .ok (.getfield 7, 3) := by decide +kernel
theorem dX9_restore_28 : decode cX9_restore 28 = .ok (.iconst 1, 1) := by decide +kernel
theorem dX9_restore_29 : decode cX9_restore 29 = .ok (.iaload, 1) := by decide +kernel
theorem dX9_restore_30 : decode cX9_restore 30 = .ok (.ireturn, 1) := by decide +kernel
theorem dX9_tell_0 : decode cX9_tell 0 = .ok (.aload_n 0, 1) := by decide +kernel
theorem dX9_tell_1 : decode cX9_tell 1 = .ok (.getfield 7, 3) := by decide +kernel
theorem dX9_tell_4 : decode cX9_tell 4 = .ok (.iconst 5, 1) := by decide +kernel
theorem dX9_tell_5 : decode cX9_tell 5 = .ok (.iaload, 1) := by decide +kernel
theorem dX9_tell_6 : decode cX9_tell 6 = .ok (.bipush 24, 2) := by decide +kernel
theorem dX9_tell_8 : decode cX9_tell 8 = .ok (.if_icmp .ne 9, 3) := by decide +kernel
theorem dX9_tell_11 : decode cX9_tell 11 = .ok (.aload_n 0, 1) := by decide +kernel
theorem dX9_tell_12 : decode cX9_tell 12 = .ok (.iconst 4, 1) := by decide +kernel
theorem dX9_tell_13 : decode cX9_tell 13 = .ok (.invokevirtual 61, 3) := by decide +kernel
theorem dX9_tell_16 : decode cX9_tell 16 = .ok (.ireturn, 1) := by decide +kernel
theorem dX9_tell_17 : decode cX9_tell 17 = .ok (.aload_n 0, 1) := by decide +kernel
theorem dX9_tell_18 : decode cX9_tell 18 = .ok (.getfield 7, 3) := by decide +kernel
theorem dX9_tell_21 : decode cX9_tell 21 = .ok (.sipush 363, 3) := by decide +kernel
theorem dX9_tell_24 : decode cX9_tell 24 = .ok (.aload_n 0, 1) := by decide +kernel
theorem dX9_tell_25 : decode cX9_tell 25 = .ok (.getfield 7, 3) := by decide +kernel
theorem dX9_tell_28 : decode cX9_tell 28 = .ok (.iconst 5, 1) := by decide +kernel
theorem dX9_tell_29 : decode cX9_tell 29 = .ok (.iaload, 1) := by decide +kernel
theorem dX9_tell_30 : decode cX9_tell 30 = .ok (.iadd, 1) := by decide +kernel
theorem dX9_tell_31 : decode cX9_tell 31 = .ok (.iload_n 1, 1) := by decide +kernel
theorem dX9_tell_32 : decode cX9_tell 32 = .ok (.iastore, 1) := by decide +kernel
theorem dX9_tell_33 : decode cX9_tell 33 = .ok (.aload_n 0, 1) := by decide +kernel
theorem dX9_tell_34 : decode cX9_tell 34 = .ok (.getfield 7, 3) := by decide +kernel
theorem dX9_tell_37 : decode cX9_tell 37 = .ok (.iconst 5, 1) := by decide +kernel
theorem dX9_tell_38 : decode cX9_tell 38 = .ok (.dup2, 1) := by decide +kernel
theorem dX9_tell_39 : decode cX9_tell 39 = .ok (.iaload, 1) := by decide +kernel
theorem dX9_tell_40 : decode cX9_tell 40 = .ok (.iconst 1, 1) := by decide +kernel
theorem dX9_tell_41 : decode cX9_tell 41 = .ok (.iadd, 1) := by decide +kernel
theorem dX9_tell_42 : decode cX9_tell 42 = .ok (.iastore, 1) := by decide +kernel
theorem dX9_tell_43 : decode cX9_tell 43 = .ok (.aload_n 0, 1) := by decide +kernel
theorem dX9_tell_44 : decode cX9_tell 44 = .ok (.getfield 7, 3) := by decide +kernel
theorem dX9_tell_47 : decode cX9_tell 47 = .ok (.iconst 5, 1) := by decide +kernel
theorem dX9_tell_48 : decode cX9_tell 48 = .ok (.iaload, 1) := by decide +kernel
theorem dX9_tell_49 : decode cX9_tell 49 = .ok (.ireturn, 1) := by decide +kernel
theorem dX9_check_0 : decode cX9_check 0 = .ok (.aload_n 0, 1) := by decide +kernel
theorem dX9_check_1 : decode cX9_check 1 = .ok (.getfield 7, 3) := by decide +kernel
theorem dX9_check_4 : decode cX9_check 4 = .ok (.iconst 5, 1) := by decide +kernel
theorem dX9_check_5 : decode cX9_check 5 = .ok (.iaload, 1) := by decide +kernel
theorem dX9_check_6 : decode cX9_check 6 = .ok (.istore_n 1, 1) := by decide +kernel
theorem dX9_check_7 : decode cX9_check 7 = .ok (.aload_n 0, 1) := by decide +kernel
theorem dX9_check_8 : decode cX9_check 8 = .ok (.getfield 7, 3) := by decide +kernel
theorem dX9_check_11 : decode cX9_check 11 = .ok (.iconst 5, 1) := by decide +kernel
theorem dX9_check_12 : decode cX9_check 12 = .ok (.iconst 0, 1) := by decide +kernel
theorem dX9_check_13 : decode cX9_check 13 = .ok (.iastore, 1) := by decide +kernel
theorem dX9_check_14 : decode cX9_check 14 = .ok (.iconst 0, 1) := by decide +kernel
theorem dX9_check_15 : decode cX9_check 15 = .ok (.istore_n 2, 1) := by decide +kernel
theorem dX9_check_16 : decode cX9_check 16 = .ok (.iload_n 2, 1) := by decide +kernel
theorem dX9_check_17 : decode cX9_check 17 = .ok (.iload_n 1, 1) := by decide +kernel
theorem dX9_check_18 : decode cX9_check 18 = .ok (.if_icmp .ge 40, 3) := by decide +kernel
theorem dX9_check_21 : decode cX9_check 21 = .ok (.aload_n 0, 1) := by decide +kernel
theorem dX9_check_22 : decode cX9_check 22 = .ok (.iload_n 2, 1) := by decide +kernel
theorem dX9_check_23 : decode cX9_check 23 = .ok (.invokevirtual 168, 3) := by decide +kernel
theorem dX9_check_26 : decode cX9_check 26 = .ok (.ifCond .eq 22, 3) := by decide +kernel
theorem dX9_check_29 : decode cX9_check 29 = .ok (.aload_n 0, 1) := by decide +kernel
theorem dX9_check_30 : decode cX9_check 30 = .ok (.getfield 7, 3) := by decide +kernel
theorem dX9_check_33 : decode cX9_check 33 = .ok (.sipush 363, 3) := by decide +kernel
theorem dX9_check_36 : decode cX9_check 36 = .ok (.iload_n 2, 1) := by decide +kernel
theorem dX9_check_37 : decode cX9_check 37 = .ok (.iadd, 1) := by decide +kernel
theorem dX9_check_38 : decode cX9_check 38 = .ok (.iaload, 1) := by decide +kernel
theorem dX9_check_39 : decode cX9_check 39 = .ok (.aload_n 0, 1) := by decide +kernel
theorem dX9_check_40 : decode cX9_check 40 = .ok (.iload_n 2, 1) := by decide +kernel
theorem dX9_check_41 : decode cX9_check 41 = .ok (.iconst 3, 1) := by decide +kernel
theorem dX9_check_42 : decode cX9_check 42 = .ok (.invokevirtual 120, 3) := by decide +kernel
theorem dX9_check_45 : decode cX9_check 45 = .ok (.if_icmp .eq 7, 3) := by decide +kernel
theorem dX9_check_48 : decode cX9_check 48 = .ok (.iconst 1, 1) := by decide +kernel
theorem dX9_check_49 : decode cX9_check 49 = .ok (.iload_n 2, 1) := by decide +kernel
theorem dX9_check_50 : decode cX9_check 50 = .ok (.iadd, 1) := by decide +kernel
theorem dX9_check_51 : decode cX9_check 51 = .ok (.ireturn, 1) := by decide +kernel
theorem dX9_check_52 : decode cX9_check 52 = .ok (.iinc 2 1, 3) := by decide +kernel
theorem dX9_check_55 : decode cX9_check 55 = .ok (.goto (-39), 3) := by decide +kernel
theorem dX9_check_58 : decode cX9_check 58 = .ok (.iconst 0, 1) := by decide +kernel
theorem dX9_check_59 : decode cX9_check 59 = .ok (.ireturn, 1) := by decide +kernel
theorem dX9_count_0 : decode cX9_count 0 = .ok (.iload_n 1, 1) := by decide +kernel
theorem dX9_count_1 : decode cX9_count 1 = .ok (.tableswitch 102 0 7 #[47, 55, 62, 69, 76, 83, 90, 95], 47) := by decide +kernel
theorem dX9_count_48 : decode cX9_count 48 = .ok (.aload_n 0, 1) := by decide +kernel
theorem dX9_count_49 : decode cX9_count 49 = .ok (.getfield 7, 3) := by decide +kernel
theorem dX9_count_52 : decode cX9_count 52 = .ok (.bipush 6, 2) := by decide +kernel
theorem dX9_count_54 : decode cX9_count 54 = .ok (.iaload, 1) := by decide +kernel
theorem dX9_count_55 : decode cX9_count 55 = .ok (.ireturn, 1) := by decide +kernel
theorem dX9_count_56 : decode cX9_count 56 = .ok (.aload_n 0, 1) := by decide +kernel
theorem dX9_count_57 : decode cX9_count 57 = .ok (.getfield 7, 3) := by decide +kernel
theorem dX9_count_60 : decode cX9_count 60 = .ok (.iconst 0, 1) := by decide +kernel
theorem dX9_count_61 : decode cX9_count 61 = .ok (.iaload, 1) := by decide +kernel
theorem dX9_count_62 : decode cX9_count 62 = .ok (.ireturn, 1) := by decide +kernel
theorem dX9_count_63 : decode cX9_count 63 = .ok (.aload_n 0, 1) := by decide +kernel
theorem dX9_count_64 : decode cX9_count 64 = .ok (.getfield 7, 3) := by decide +kernel
theorem dX9_count_67 : decode cX9_count 67 = .ok (.iconst 1, 1) := by decide +kernel
theorem dX9_count_68 : decode cX9_count 68 = .ok (.iaload, 1) := by decide +kernel
theorem dX9_count_69 : decode cX9_count 69 = .ok (.ireturn, 1) := by decide +kernel
theorem dX9_count_70 : decode cX9_count 70 = .ok (.aload_n 0, 1) := by decide +kernel
theorem dX9_count_71 : decode cX9_count 71 = .ok (.getfield 7, 3) := by decide +kernel
theorem dX9_count_74 : decode cX9_count 74 = .ok (.iconst 2, 1) := by decide +kernel
theorem dX9_count_75 : decode cX9_count 75 = .ok (.iaload, 1) := by decide +kernel
theorem dX9_count_76 : decode cX9_count 76 = .ok (.ireturn, 1) := by decide +kernel
theorem dX9_count_77 : decode cX9_count 77 = .ok (.aload_n 0, 1) := by decide +kernel
theorem dX9_count_78 : decode cX9_count 78 = .ok (.getfield 7, 3) := by decide +kernel
theorem dX9_count_81 : decode cX9_count 81 = .ok (.iconst 4, 1) := by decide +kernel
theorem dX9_count_82 : decode cX9_count 82 = .ok (.iaload, 1) := by decide +kernel
theorem dX9_count_83 : decode cX9_count 83 = .ok (.ireturn, 1) := by decide +kernel
theorem dX9_count_84 : decode cX9_count 84 = .ok (.aload_n 0, 1) := by decide +kernel
theorem dX9_count_85 : decode cX9_count 85 = .ok (.getfield 7, 3) := by decide +kernel
theorem dX9_count_88 : decode cX9_count 88 = .ok (.iconst 5, 1) := by decide +kernel
theorem dX9_count_89 : decode cX9_count 89 = .ok (.iaload, 1) := by decide +kernel
theorem dX9_count_90 : decode cX9_count 90 = .ok (.ireturn, 1) := by decide +kernel
theorem dX9_count_91 : decode cX9_count 91 = .ok (.aload_n 0, 1) := by decide +kernel
theorem dX9_count_92 : decode cX9_count 92 = .ok (.getfield 210, 3) := by decide +kernel
theorem dX9_count_95 : decode cX9_count 95 = .ok (.ireturn, 1) := by decide +kernel
theorem dX9_count_96 : decode cX9_count 96 = .ok (.aload_n 0, 1) := by decide +kernel
theorem dX9_count_97 : decode cX9_count 97 = .ok (.getfield 7, 3) := by decide +kernel
theorem dX9_count_100 : decode cX9_count 100 = .ok (.iconst 3, 1) := by decide +kernel
theorem dX9_count_101 : decode cX9_count 101 = .ok (.iaload, 1) := by decide +kernel
theorem dX9_count_102 : decode cX9_count 102 = .ok (.ireturn, 1) := by decide +kernel
theorem dX9_count_103 : decode cX9_count 103 = .ok (.aload_n 0, 1) := by decide +kernel
theorem dX9_count_104 : decode cX9_count 104 = .ok (.iconst 1, 1) := by decide +kernel
theorem dX9_count_105 : decode cX9_count 105 = .ok (.invokevirtual 61, 3) := by decide +kernel
theorem dX9_count_108 : decode cX9_count 108 = .ok (.ireturn, 1) := by decide +kernel
theorem dX9_told_0 : decode cX9_told 0 = .ok (.iload_n 1, 1) := by decide +kernel
theorem dX9_told_1 : decode cX9_told 1 = .ok (.iconst 1, 1) := by decide +kernel
theorem dX9_told_2 : decode cX9_told 2 = .ok (.bipush 6, 2) := by decide +kernel
theorem dX9_told_4 : decode cX9_told 4 = .ok (.invokestatic 57, 3) := by decide +kernel
theorem dX9_told_7 : decode cX9_told 7 = .ok (.ifCond .eq 12, 3) := by decide +kernel
theorem dX9_told_10 : decode cX9_told 10 = .ok (.aload_n 0, 1) := by decide +kernel
theorem dX9_told_11 : decode cX9_told 11 = .ok (.getfield 19, 3) := by decide +kernel
theorem dX9_told_14 : decode cX9_told 14 = .ok (.iload_n 1, 1) := by decide +kernel
theorem dX9_told_15 : decode cX9_told 15 = .ok (.iaload, 1) := by decide +kernel
theorem dX9_told_16 : decode cX9_told 16 = .ok (.goto 8, 3) := by decide +kernel
theorem dX9_told_19 : decode cX9_told 19 = .ok (.aload_n 0, 1) := by decide +kernel
theorem dX9_told_20 : decode cX9_told 20 = .ok (.iconst 1, 1) := by decide +kernel
theorem dX9_told_21 : decode cX9_told 21 = .ok (.invokevirtual 61, 3) := by decide +kernel
theorem dX9_told_24 : decode cX9_told 24 = .ok (.ireturn, 1) := by decide +kernel
theorem dJ6_bitCount_0f7a4_0 : decode cJ6_bitCount_0f7a4 0 = .ok (.iload_n 0, 1) := by decide +kernel
theorem dJ6_bitCount_0f7a4_1 : decode cJ6_bitCount_0f7a4 1 = .ok (.iload_n 0, 1) := by decide +kernel
theorem dJ6_bitCount_0f7a4_2 : decode cJ6_bitCount_0f7a4 2 = .ok (.iconst 1, 1) := by decide +kernel
theorem dJ6_bitCount_0f7a4_3 : decode cJ6_bitCount_0f7a4 3 = .ok (.iushr, 1) := by decide +kernel
theorem dJ6_bitCount_0f7a4_4 : decode cJ6_bitCount_0f7a4 4 = .ok (.ldc_w 265, 3) := by decide +kernel
theorem dJ6_bitCount_0f7a4_7 : decode cJ6_bitCount_0f7a4 7 = .ok (.iand, 1) := by decide +kernel
theorem dJ6_bitCount_0f7a4_8 : decode cJ6_bitCount_0f7a4 8 = .ok (.isub, 1) := by decide +kernel
theorem dJ6_bitCount_0f7a4_9 : decode cJ6_bitCount_0f7a4 9 = .ok (.istore_n 0, 1) := by decide +kernel
theorem dJ6_bitCount_0f7a4_10 : decode cJ6_bitCount_0f7a4 10 = .ok (.iload_n 0, 1) := by decide +kernel
theorem dJ6_bitCount_0f7a4_11 : decode cJ6_bitCount_0f7a4 11 = .ok (.ldc_w 266, 3) := by decide +kernel
theorem dJ6_bitCount_0f7a4_14 : decode cJ6_bitCount_0f7a4 14 = .ok (.iand, 1) := by decide +kernel
theorem dJ6_bitCount_0f7a4_15 : decode cJ6_bitCount_0f7a4 15 = .ok (.iload_n 0, 1) := by decide +kernel
theorem dJ6_bitCount_0f7a4_16 : decode cJ6_bitCount_0f7a4 16 = .ok (.iconst 2, 1) := by decide +kernel
theorem dJ6_bitCount_0f7a4_17 : decode cJ6_bitCount_0f7a4 17 = .ok (.iushr, 1) := by decide +kernel
theorem dJ6_bitCount_0f7a4_18 : decode cJ6_bitCount_0f7a4 18 = .ok (.ldc_w 266, 3) := by decide +kernel
theorem dJ6_bitCount_0f7a4_21 : decode cJ6_bitCount_0f7a4 21 = .ok (.iand, 1) := by decide +kernel
theorem dJ6_bitCount_0f7a4_22 : decode cJ6_bitCount_0f7a4 22 = .ok (.iadd, 1) := by decide +kernel
theorem dJ6_bitCount_0f7a4_23 : decode cJ6_bitCount_0f7a4 23 = .ok (.istore_n 0, 1) := by decide +kernel
theorem dJ6_bitCount_0f7a4_24 : decode cJ6_bitCount_0f7a4 24 = .ok (.iload_n 0, 1) := by decide +kernel
theorem dJ6_bitCount_0f7a4_25 : decode cJ6_bitCount_0f7a4 25 = .ok (.iload_n 0, 1) := by decide +kernel
theorem dJ6_bitCount_0f7a4_26 : decode cJ6_bitCount_0f7a4 26 = .ok (.iconst 4, 1) := by decide +kernel
theorem dJ6_bitCount_0f7a4_27 : decode cJ6_bitCount_0f7a4 27 = .ok (.iushr, 1) := by decide +kernel
theorem dJ6_bitCount_0f7a4_28 : decode cJ6_bitCount_0f7a4 28 = .ok (.iadd, 1) := by decide +kernel
theorem dJ6_bitCount_0f7a4_29 : decode cJ6_bitCount_0f7a4 29 = .ok (.ldc_w 267, 3) := by decide +kernel
theorem dJ6_bitCount_0f7a4_32 : decode cJ6_bitCount_0f7a4 32 = .ok (.iand, 1) := by decide +kernel
theorem dJ6_bitCount_0f7a4_33 : decode cJ6_bitCount_0f7a4 33 = .ok (.istore_n 0, 1) := by decide +kernel
theorem dJ6_bitCount_0f7a4_34 : decode cJ6_bitCount_0f7a4 34 = .ok (.iload_n 0, 1) := by decide +kernel
theorem dJ6_bitCount_0f7a4_35 : decode cJ6_bitCount_0f7a4 35 = .ok (.iload_n 0, 1) := by decide +kernel
theorem dJ6_bitCount_0f7a4_36 : decode cJ6_bitCount_0f7a4 36 = .ok (.bipush 8, 2) := by decide +kernel
theorem dJ6_bitCount_0f7a4_38 : decode cJ6_bitCount_0f7a4 38 = .ok (.iushr, 1) := by decide +kernel
theorem dJ6_bitCount_0f7a4_39 : decode cJ6_bitCount_0f7a4 39 = .ok (.iadd, 1) := by decide +kernel
theorem dJ6_bitCount_0f7a4_40 : decode cJ6_bitCount_0f7a4 40 = .ok (.istore_n 0, 1) := by decide +kernel
theorem dJ6_bitCount_0f7a4_41 : decode cJ6_bitCount_0f7a4 41 = .ok (.iload_n 0, 1) := by decide +kernel
theorem dJ6_bitCount_0f7a4_42 : decode cJ6_bitCount_0f7a4 42 = .ok (.iload_n 0, 1) := by decide +kernel
theorem dJ6_bitCount_0f7a4_43 : decode cJ6_bitCount_0f7a4 43 = .ok (.bipush 16, 2) := by decide +kernel
theorem dJ6_bitCount_0f7a4_45 : decode cJ6_bitCount_0f7a4 45 = .ok (.iushr, 1) := by decide +kernel
theorem dJ6_bitCount_0f7a4_46 : decode cJ6_bitCount_0f7a4 46 = .ok (.iadd, 1) := by decide +kernel
theorem dJ6_bitCount_0f7a4_47 : decode cJ6_bitCount_0f7a4 47 = .ok (.istore_n 0, 1) := by decide +kernel
theorem dJ6_bitCount_0f7a4_48 : decode cJ6_bitCount_0f7a4 48 = .ok (.iload_n 0, 1) := by decide +kernel
theorem dJ6_bitCount_0f7a4_49 : decode cJ6_bitCount_0f7a4 49 = .ok (.bipush 63, 2) := by decide +kernel
theorem dJ6_bitCount_0f7a4_51 : decode cJ6_bitCount_0f7a4 51 = .ok (.iand, 1) := by decide +kernel
theorem dJ6_bitCount_0f7a4_52 : decode cJ6_bitCount_0f7a4 52 = .ok (.ireturn, 1) := by decide +kernel
theorem dJ9_min_7cf53_0 : decode cJ9_min_7cf53 0 = .ok (.iload_n 0, 1) := by decide +kernel
theorem dJ9_min_7cf53_1 : decode cJ9_min_7cf53 1 = .ok (.iload_n 1, 1) := by decide +kernel
theorem dJ9_min_7cf53_2 : decode cJ9_min_7cf53 2 = .ok (.if_icmp .gt 7, 3) := by decide +kernel
theorem dJ9_min_7cf53_5 : decode cJ9_min_7cf53 5 = .ok (.iload_n 0, 1) := by decide +kernel
theorem dJ9_min_7cf53_6 : decode cJ9_min_7cf53 6 = .ok (.goto 4, 3) := by decide +kernel
theorem dJ9_min_7cf53_9 : decode cJ9_min_7cf53 9 = .ok (.iload_n 1, 1) := by decide +kernel
theorem dJ9_min_7cf53_10 : decode cJ9_min_7cf53 10 = .ok (.ireturn, 1) := by decide +kernel
theorem dL_law_0 : decode cL_law 0 = .ok (.new 7, 3) := by decide +kernel
theorem dL_law_3 : decode cL_law 3 = .ok (.dup, 1) := by decide +kernel
theorem dL_law_4 : decode cL_law 4 = .ok (.invokespecial 9, 3) := by decide +kernel
theorem dL_law_7 : decode cL_law 7 = .ok (.astore_n 1, 1) := by decide +kernel
theorem dL_law_8 : decode cL_law 8 = .ok (.new 10, 3) := by decide +kernel
theorem dL_law_11 : decode cL_law 11 = .ok (.dup, 1) := by decide +kernel
theorem dL_law_12 : decode cL_law 12 = .ok (.invokespecial 12, 3) := by decide +kernel
theorem dL_law_15 : decode cL_law 15 = .ok (.astore_n 2, 1) := by decide +kernel
theorem dL_law_16 : decode cL_law 16 = .ok (.iconst 0, 1) := by decide +kernel
theorem dL_law_17 : decode cL_law 17 = .ok (.istore_n 3, 1) := by decide +kernel
theorem dL_law_18 : decode cL_law 18 = .ok (.iload_n 3, 1) := by decide +kernel
theorem dL_law_19 : decode cL_law 19 = .ok (.aload_n 0, 1) := by decide +kernel
theorem dL_law_20 : decode cL_law 20 = .ok (.arraylength, 1) := by decide +kernel
theorem dL_law_21 : decode cL_law 21 = .ok (.bipush 6, 2) := by decide +kernel
theorem dL_law_23 : decode cL_law 23 = .ok (.isub, 1) := by decide +kernel
theorem dL_law_24 : decode cL_law 24 = .ok (.if_icmp .gt 1269, 3) := by decide +kernel
theorem dL_law_27 : decode cL_law 27 = .ok (.aload_n 0, 1) := by decide +kernel
theorem dL_law_28 : decode cL_law 28 = .ok (.iload_n 3, 1) := by decide +kernel
theorem dL_law_29 : decode cL_law 29 = .ok (.iaload, 1) := by decide +kernel
theorem dL_law_30 : decode cL_law 30 = .ok (.bipush 63, 2) := by decide +kernel
theorem dL_law_32 : decode cL_law 32 = .ok (.iand, 1) := by decide +kernel
theorem dL_law_33 : decode cL_law 33 = .ok (.tableswitch 1254 0 36 #[163, 206, 239, 272, 305, 338, 371, 404, 437, 460, 523, 546, 569, 622, 645, 668, 691, 714, 727, 750, 783, 806, 839, 862, 885, 928, 951, 994, 1037, 1100, 1123, 1146, 1159, 1172, 1195, 1208, 1231], 163) := by decide +kernel
theorem dL_law_196 : decode cL_law 196 = .ok (.aload_n 1, 1) := by decide +kernel
theorem dL_law_197 : decode cL_law 197 = .ok (.aload_n 0, 1) := by decide +kernel
theorem dL_law_198 : decode cL_law 198 = .ok (.iload_n 3, 1) := by decide +kernel
theorem dL_law_199 : decode cL_law 199 = .ok (.iconst 1, 1) := by decide +kernel
theorem dL_law_200 : decode cL_law 200 = .ok (.iadd, 1) := by decide +kernel
theorem dL_law_201 : decode cL_law 201 = .ok (.iaload, 1) := by decide +kernel
theorem dL_law_202 : decode cL_law 202 = .ok (.aload_n 0, 1) := by decide +kernel
theorem dL_law_203 : decode cL_law 203 = .ok (.iload_n 3, 1) := by decide +kernel
theorem dL_law_204 : decode cL_law 204 = .ok (.iconst 2, 1) := by decide +kernel
theorem dL_law_205 : decode cL_law 205 = .ok (.iadd, 1) := by decide +kernel
theorem dL_law_206 : decode cL_law 206 = .ok (.iaload, 1) := by decide +kernel
theorem dL_law_207 : decode cL_law 207 = .ok (.aload_n 0, 1) := by decide +kernel
theorem dL_law_208 : decode cL_law 208 = .ok (.iload_n 3, 1) := by decide +kernel
theorem dL_law_209 : decode cL_law 209 = .ok (.iconst 3, 1) := by decide +kernel
theorem dL_law_210 : decode cL_law 210 = .ok (.iadd, 1) := by decide +kernel
theorem dL_law_211 : decode cL_law 211 = .ok (.iaload, 1) := by decide +kernel
theorem dL_law_212 : decode cL_law 212 = .ok (.invokevirtual 13, 3) := by decide +kernel
theorem dL_law_215 : decode cL_law 215 = .ok (.aload_n 2, 1) := by decide +kernel
theorem dL_law_216 : decode cL_law 216 = .ok (.aload_n 0, 1) := by decide +kernel
theorem dL_law_217 : decode cL_law 217 = .ok (.iload_n 3, 1) := by decide +kernel
theorem dL_law_218 : decode cL_law 218 = .ok (.iconst 1, 1) := by decide +kernel
theorem dL_law_219 : decode cL_law 219 = .ok (.iadd, 1) := by decide +kernel
theorem dL_law_220 : decode cL_law 220 = .ok (.iaload, 1) := by decide +kernel
theorem dL_law_221 : decode cL_law 221 = .ok (.aload_n 0, 1) := by decide +kernel
theorem dL_law_222 : decode cL_law 222 = .ok (.iload_n 3, 1) := by decide +kernel
theorem dL_law_223 : decode cL_law 223 = .ok (.iconst 2, 1) := by decide +kernel
theorem dL_law_224 : decode cL_law 224 = .ok (.iadd, 1) := by decide +kernel
theorem dL_law_225 : decode cL_law 225 = .ok (.iaload, 1) := by decide +kernel
theorem dL_law_226 : decode cL_law 226 = .ok (.aload_n 0, 1) := by decide +kernel
theorem dL_law_227 : decode cL_law 227 = .ok (.iload_n 3, 1) := by decide +kernel
theorem dL_law_228 : decode cL_law 228 = .ok (.iconst 3, 1) := by decide +kernel
theorem dL_law_229 : decode cL_law 229 = .ok (.iadd, 1) := by decide +kernel
theorem dL_law_230 : decode cL_law 230 = .ok (.iaload, 1) := by decide +kernel
theorem dL_law_231 : decode cL_law 231 = .ok (.invokevirtual 17, 3) := by decide +kernel
theorem dL_law_234 : decode cL_law 234 = .ok (.if_icmp .eq 1053, 3) := by decide +kernel
theorem dL_law_237 : decode cL_law 237 = .ok (.iconst 0, 1) := by decide +kernel
theorem dL_law_238 : decode cL_law 238 = .ok (.ireturn, 1) := by decide +kernel
theorem dL_law_239 : decode cL_law 239 = .ok (.aload_n 1, 1) := by decide +kernel
theorem dL_law_240 : decode cL_law 240 = .ok (.aload_n 0, 1) := by decide +kernel
theorem dL_law_241 : decode cL_law 241 = .ok (.iload_n 3, 1) := by decide +kernel
theorem dL_law_242 : decode cL_law 242 = .ok (.iconst 1, 1) := by decide +kernel
theorem dL_law_243 : decode cL_law 243 = .ok (.iadd, 1) := by decide +kernel
theorem dL_law_244 : decode cL_law 244 = .ok (.iaload, 1) := by decide +kernel
theorem dL_law_245 : decode cL_law 245 = .ok (.aload_n 0, 1) := by decide +kernel
theorem dL_law_246 : decode cL_law 246 = .ok (.iload_n 3, 1) := by decide +kernel
theorem dL_law_247 : decode cL_law 247 = .ok (.iconst 2, 1) := by decide +kernel
theorem dL_law_248 : decode cL_law 248 = .ok (.iadd, 1) := by decide +kernel
theorem dL_law_249 : decode cL_law 249 = .ok (.iaload, 1) := by decide +kernel
theorem dL_law_250 : decode cL_law 250 = .ok (.invokevirtual 18, 3) := by decide +kernel
theorem dL_law_253 : decode cL_law 253 = .ok (.aload_n 2, 1) := by decide +kernel
theorem dL_law_254 : decode cL_law 254 = .ok (.aload_n 0, 1) := by decide +kernel
theorem dL_law_255 : decode cL_law 255 = .ok (.iload_n 3, 1) := by decide +kernel
theorem dL_law_256 : decode cL_law 256 = .ok (.iconst 1, 1) := by decide +kernel
theorem dL_law_257 : decode cL_law 257 = .ok (.iadd, 1) := by decide +kernel
theorem dL_law_258 : decode cL_law 258 = .ok (.iaload, 1) := by decide +kernel
theorem dL_law_259 : decode cL_law 259 = .ok (.aload_n 0, 1) := by decide +kernel
theorem dL_law_260 : decode cL_law 260 = .ok (.iload_n 3, 1) := by decide +kernel
theorem dL_law_261 : decode cL_law 261 = .ok (.iconst 2, 1) := by decide +kernel
theorem dL_law_262 : decode cL_law 262 = .ok (.iadd, 1) := by decide +kernel
theorem dL_law_263 : decode cL_law 263 = .ok (.iaload, 1) := by decide +kernel
theorem dL_law_264 : decode cL_law 264 = .ok (.invokevirtual 22, 3) := by decide +kernel
theorem dL_law_267 : decode cL_law 267 = .ok (.if_icmp .eq 1020, 3) := by decide +kernel
theorem dL_law_270 : decode cL_law 270 = .ok (.iconst 0, 1) := by decide +kernel
theorem dL_law_271 : decode cL_law 271 = .ok (.ireturn, 1) := by decide +kernel
theorem dL_law_272 : decode cL_law 272 = .ok (.aload_n 1, 1) := by decide +kernel
theorem dL_law_273 : decode cL_law 273 = .ok (.aload_n 0, 1) := by decide +kernel
theorem dL_law_274 : decode cL_law 274 = .ok (.iload_n 3, 1) := by decide +kernel
theorem dL_law_275 : decode cL_law 275 = .ok (.iconst 1, 1) := by decide +kernel
theorem dL_law_276 : decode cL_law 276 = .ok (.iadd, 1) := by decide +kernel
theorem dL_law_277 : decode cL_law 277 = .ok (.iaload, 1) := by decide +kernel
theorem dL_law_278 : decode cL_law 278 = .ok (.aload_n 0, 1) := by decide +kernel
theorem dL_law_279 : decode cL_law 279 = .ok (.iload_n 3, 1) := by decide +kernel
theorem dL_law_280 : decode cL_law 280 = .ok (.iconst 2, 1) := by decide +kernel
theorem dL_law_281 : decode cL_law 281 = .ok (.iadd, 1) := by decide +kernel
theorem dL_law_282 : decode cL_law 282 = .ok (.iaload, 1) := by decide +kernel
theorem dL_law_283 : decode cL_law 283 = .ok (.invokevirtual 23, 3) := by decide +kernel
theorem dL_law_286 : decode cL_law 286 = .ok (.aload_n 2, 1) := by decide +kernel
theorem dL_law_287 : decode cL_law 287 = .ok (.aload_n 0, 1) := by decide +kernel
theorem dL_law_288 : decode cL_law 288 = .ok (.iload_n 3, 1) := by decide +kernel
theorem dL_law_289 : decode cL_law 289 = .ok (.iconst 1, 1) := by decide +kernel
theorem dL_law_290 : decode cL_law 290 = .ok (.iadd, 1) := by decide +kernel
theorem dL_law_291 : decode cL_law 291 = .ok (.iaload, 1) := by decide +kernel
theorem dL_law_292 : decode cL_law 292 = .ok (.aload_n 0, 1) := by decide +kernel
theorem dL_law_293 : decode cL_law 293 = .ok (.iload_n 3, 1) := by decide +kernel
theorem dL_law_294 : decode cL_law 294 = .ok (.iconst 2, 1) := by decide +kernel
theorem dL_law_295 : decode cL_law 295 = .ok (.iadd, 1) := by decide +kernel
theorem dL_law_296 : decode cL_law 296 = .ok (.iaload, 1) := by decide +kernel
theorem dL_law_297 : decode cL_law 297 = .ok (.invokevirtual 26, 3) := by decide +kernel
theorem dL_law_300 : decode cL_law 300 = .ok (.if_icmp .eq 987, 3) := by decide +kernel
theorem dL_law_303 : decode cL_law 303 = .ok (.iconst 0, 1) := by decide +kernel
theorem dL_law_304 : decode cL_law 304 = .ok (.ireturn, 1) := by decide +kernel
theorem dL_law_305 : decode cL_law 305 = .ok (.aload_n 1, 1) := by decide +kernel
theorem dL_law_306 : decode cL_law 306 = .ok (.aload_n 0, 1) := by decide +kernel
theorem dL_law_307 : decode cL_law 307 = .ok (.iload_n 3, 1) := by decide +kernel
theorem dL_law_308 : decode cL_law 308 = .ok (.iconst 1, 1) := by decide +kernel
theorem dL_law_309 : decode cL_law 309 = .ok (.iadd, 1) := by decide +kernel
theorem dL_law_310 : decode cL_law 310 = .ok (.iaload, 1) := by decide +kernel
theorem dL_law_311 : decode cL_law 311 = .ok (.aload_n 0, 1) := by decide +kernel
theorem dL_law_312 : decode cL_law 312 = .ok (.iload_n 3, 1) := by decide +kernel
theorem dL_law_313 : decode cL_law 313 = .ok (.iconst 2, 1) := by decide +kernel
theorem dL_law_314 : decode cL_law 314 = .ok (.iadd, 1) := by decide +kernel
theorem dL_law_315 : decode cL_law 315 = .ok (.iaload, 1) := by decide +kernel
theorem dL_law_316 : decode cL_law 316 = .ok (.invokevirtual 27, 3) := by decide +kernel
theorem dL_law_319 : decode cL_law 319 = .ok (.aload_n 2, 1) := by decide +kernel
theorem dL_law_320 : decode cL_law 320 = .ok (.aload_n 0, 1) := by decide +kernel
theorem dL_law_321 : decode cL_law 321 = .ok (.iload_n 3, 1) := by decide +kernel
theorem dL_law_322 : decode cL_law 322 = .ok (.iconst 1, 1) := by decide +kernel
theorem dL_law_323 : decode cL_law 323 = .ok (.iadd, 1) := by decide +kernel
theorem dL_law_324 : decode cL_law 324 = .ok (.iaload, 1) := by decide +kernel
theorem dL_law_325 : decode cL_law 325 = .ok (.aload_n 0, 1) := by decide +kernel
theorem dL_law_326 : decode cL_law 326 = .ok (.iload_n 3, 1) := by decide +kernel
theorem dL_law_327 : decode cL_law 327 = .ok (.iconst 2, 1) := by decide +kernel
theorem dL_law_328 : decode cL_law 328 = .ok (.iadd, 1) := by decide +kernel
theorem dL_law_329 : decode cL_law 329 = .ok (.iaload, 1) := by decide +kernel
theorem dL_law_330 : decode cL_law 330 = .ok (.invokevirtual 30, 3) := by decide +kernel
theorem dL_law_333 : decode cL_law 333 = .ok (.if_icmp .eq 954, 3) := by decide +kernel
theorem dL_law_336 : decode cL_law 336 = .ok (.iconst 0, 1) := by decide +kernel
theorem dL_law_337 : decode cL_law 337 = .ok (.ireturn, 1) := by decide +kernel
theorem dL_law_338 : decode cL_law 338 = .ok (.aload_n 1, 1) := by decide +kernel
theorem dL_law_339 : decode cL_law 339 = .ok (.aload_n 0, 1) := by decide +kernel
theorem dL_law_340 : decode cL_law 340 = .ok (.iload_n 3, 1) := by decide +kernel
theorem dL_law_341 : decode cL_law 341 = .ok (.iconst 1, 1) := by decide +kernel
theorem dL_law_342 : decode cL_law 342 = .ok (.iadd, 1) := by decide +kernel
theorem dL_law_343 : decode cL_law 343 = .ok (.iaload, 1) := by decide +kernel
theorem dL_law_344 : decode cL_law 344 = .ok (.aload_n 0, 1) := by decide +kernel
theorem dL_law_345 : decode cL_law 345 = .ok (.iload_n 3, 1) := by decide +kernel
theorem dL_law_346 : decode cL_law 346 = .ok (.iconst 2, 1) := by decide +kernel
theorem dL_law_347 : decode cL_law 347 = .ok (.iadd, 1) := by decide +kernel
theorem dL_law_348 : decode cL_law 348 = .ok (.iaload, 1) := by decide +kernel
theorem dL_law_349 : decode cL_law 349 = .ok (.invokevirtual 31, 3) := by decide +kernel
theorem dL_law_352 : decode cL_law 352 = .ok (.aload_n 2, 1) := by decide +kernel
theorem dL_law_353 : decode cL_law 353 = .ok (.aload_n 0, 1) := by decide +kernel
theorem dL_law_354 : decode cL_law 354 = .ok (.iload_n 3, 1) := by decide +kernel
theorem dL_law_355 : decode cL_law 355 = .ok (.iconst 1, 1) := by decide +kernel
theorem dL_law_356 : decode cL_law 356 = .ok (.iadd, 1) := by decide +kernel
theorem dL_law_357 : decode cL_law 357 = .ok (.iaload, 1) := by decide +kernel
theorem dL_law_358 : decode cL_law 358 = .ok (.aload_n 0, 1) := by decide +kernel
theorem dL_law_359 : decode cL_law 359 = .ok (.iload_n 3, 1) := by decide +kernel
theorem dL_law_360 : decode cL_law 360 = .ok (.iconst 2, 1) := by decide +kernel
theorem dL_law_361 : decode cL_law 361 = .ok (.iadd, 1) := by decide +kernel
theorem dL_law_362 : decode cL_law 362 = .ok (.iaload, 1) := by decide +kernel
theorem dL_law_363 : decode cL_law 363 = .ok (.invokevirtual 34, 3) := by decide +kernel
theorem dL_law_366 : decode cL_law 366 = .ok (.if_icmp .eq 921, 3) := by decide +kernel
theorem dL_law_369 : decode cL_law 369 = .ok (.iconst 0, 1) := by decide +kernel
theorem dL_law_370 : decode cL_law 370 = .ok (.ireturn, 1) := by decide +kernel
theorem dL_law_371 : decode cL_law 371 = .ok (.aload_n 1, 1) := by decide +kernel
theorem dL_law_372 : decode cL_law 372 = .ok (.aload_n 0, 1) := by decide +kernel
theorem dL_law_373 : decode cL_law 373 = .ok (.iload_n 3, 1) := by decide +kernel
theorem dL_law_374 : decode cL_law 374 = .ok (.iconst 1, 1) := by decide +kernel
theorem dL_law_375 : decode cL_law 375 = .ok (.iadd, 1) := by decide +kernel
theorem dL_law_376 : decode cL_law 376 = .ok (.iaload, 1) := by decide +kernel
theorem dL_law_377 : decode cL_law 377 = .ok (.aload_n 0, 1) := by decide +kernel
theorem dL_law_378 : decode cL_law 378 = .ok (.iload_n 3, 1) := by decide +kernel
theorem dL_law_379 : decode cL_law 379 = .ok (.iconst 2, 1) := by decide +kernel
theorem dL_law_380 : decode cL_law 380 = .ok (.iadd, 1) := by decide +kernel
theorem dL_law_381 : decode cL_law 381 = .ok (.iaload, 1) := by decide +kernel
theorem dL_law_382 : decode cL_law 382 = .ok (.invokevirtual 35, 3) := by decide +kernel
theorem dL_law_385 : decode cL_law 385 = .ok (.aload_n 2, 1) := by decide +kernel
theorem dL_law_386 : decode cL_law 386 = .ok (.aload_n 0, 1) := by decide +kernel
theorem dL_law_387 : decode cL_law 387 = .ok (.iload_n 3, 1) := by decide +kernel
theorem dL_law_388 : decode cL_law 388 = .ok (.iconst 1, 1) := by decide +kernel
theorem dL_law_389 : decode cL_law 389 = .ok (.iadd, 1) := by decide +kernel
theorem dL_law_390 : decode cL_law 390 = .ok (.iaload, 1) := by decide +kernel
theorem dL_law_391 : decode cL_law 391 = .ok (.aload_n 0, 1) := by decide +kernel
theorem dL_law_392 : decode cL_law 392 = .ok (.iload_n 3, 1) := by decide +kernel
theorem dL_law_393 : decode cL_law 393 = .ok (.iconst 2, 1) := by decide +kernel
theorem dL_law_394 : decode cL_law 394 = .ok (.iadd, 1) := by decide +kernel
theorem dL_law_395 : decode cL_law 395 = .ok (.iaload, 1) := by decide +kernel
theorem dL_law_396 : decode cL_law 396 = .ok (.invokevirtual 38, 3) := by decide +kernel
theorem dL_law_399 : decode cL_law 399 = .ok (.if_icmp .eq 888, 3) := by decide +kernel
theorem dL_law_402 : decode cL_law 402 = .ok (.iconst 0, 1) := by decide +kernel
theorem dL_law_403 : decode cL_law 403 = .ok (.ireturn, 1) := by decide +kernel
theorem dL_law_404 : decode cL_law 404 = .ok (.aload_n 1, 1) := by decide +kernel
theorem dL_law_405 : decode cL_law 405 = .ok (.aload_n 0, 1) := by decide +kernel
theorem dL_law_406 : decode cL_law 406 = .ok (.iload_n 3, 1) := by decide +kernel
theorem dL_law_407 : decode cL_law 407 = .ok (.iconst 1, 1) := by decide +kernel
theorem dL_law_408 : decode cL_law 408 = .ok (.iadd, 1) := by decide +kernel
theorem dL_law_409 : decode cL_law 409 = .ok (.iaload, 1) := by decide +kernel
theorem dL_law_410 : decode cL_law 410 = .ok (.aload_n 0, 1) := by decide +kernel
theorem dL_law_411 : decode cL_law 411 = .ok (.iload_n 3, 1) := by decide +kernel
theorem dL_law_412 : decode cL_law 412 = .ok (.iconst 2, 1) := by decide +kernel
theorem dL_law_413 : decode cL_law 413 = .ok (.iadd, 1) := by decide +kernel
theorem dL_law_414 : decode cL_law 414 = .ok (.iaload, 1) := by decide +kernel
theorem dL_law_415 : decode cL_law 415 = .ok (.invokevirtual 39, 3) := by decide +kernel
theorem dL_law_418 : decode cL_law 418 = .ok (.aload_n 2, 1) := by decide +kernel
theorem dL_law_419 : decode cL_law 419 = .ok (.aload_n 0, 1) := by decide +kernel
theorem dL_law_420 : decode cL_law 420 = .ok (.iload_n 3, 1) := by decide +kernel
theorem dL_law_421 : decode cL_law 421 = .ok (.iconst 1, 1) := by decide +kernel
theorem dL_law_422 : decode cL_law 422 = .ok (.iadd, 1) := by decide +kernel
theorem dL_law_423 : decode cL_law 423 = .ok (.iaload, 1) := by decide +kernel
theorem dL_law_424 : decode cL_law 424 = .ok (.aload_n 0, 1) := by decide +kernel
theorem dL_law_425 : decode cL_law 425 = .ok (.iload_n 3, 1) := by decide +kernel
theorem dL_law_426 : decode cL_law 426 = .ok (.iconst 2, 1) := by decide +kernel
theorem dL_law_427 : decode cL_law 427 = .ok (.iadd, 1) := by decide +kernel
theorem dL_law_428 : decode cL_law 428 = .ok (.iaload, 1) := by decide +kernel
theorem dL_law_429 : decode cL_law 429 = .ok (.invokevirtual 42, 3) := by decide +kernel
theorem dL_law_432 : decode cL_law 432 = .ok (.if_icmp .eq 855, 3) := by decide +kernel
theorem dL_law_435 : decode cL_law 435 = .ok (.iconst 0, 1) := by decide +kernel
theorem dL_law_436 : decode cL_law 436 = .ok (.ireturn, 1) := by decide +kernel
theorem dL_law_437 : decode cL_law 437 = .ok (.aload_n 1, 1) := by decide +kernel
theorem dL_law_438 : decode cL_law 438 = .ok (.aload_n 0, 1) := by decide +kernel
theorem dL_law_439 : decode cL_law 439 = .ok (.iload_n 3, 1) := by decide +kernel
theorem dL_law_440 : decode cL_law 440 = .ok (.iconst 1, 1) := by decide +kernel
theorem dL_law_441 : decode cL_law 441 = .ok (.iadd, 1) := by decide +kernel
theorem dL_law_442 : decode cL_law 442 = .ok (.iaload, 1) := by decide +kernel
theorem dL_law_443 : decode cL_law 443 = .ok (.aload_n 0, 1) := by decide +kernel
theorem dL_law_444 : decode cL_law 444 = .ok (.iload_n 3, 1) := by decide +kernel
theorem dL_law_445 : decode cL_law 445 = .ok (.iconst 2, 1) := by decide +kernel
theorem dL_law_446 : decode cL_law 446 = .ok (.iadd, 1) := by decide +kernel
theorem dL_law_447 : decode cL_law 447 = .ok (.iaload, 1) := by decide +kernel
theorem dL_law_448 : decode cL_law 448 = .ok (.invokevirtual 43, 3) := by decide +kernel
theorem dL_law_451 : decode cL_law 451 = .ok (.aload_n 2, 1) := by decide +kernel
theorem dL_law_452 : decode cL_law 452 = .ok (.aload_n 0, 1) := by decide +kernel
theorem dL_law_453 : decode cL_law 453 = .ok (.iload_n 3, 1) := by decide +kernel
theorem dL_law_454 : decode cL_law 454 = .ok (.iconst 1, 1) := by decide +kernel
theorem dL_law_455 : decode cL_law 455 = .ok (.iadd, 1) := by decide +kernel
theorem dL_law_456 : decode cL_law 456 = .ok (.iaload, 1) := by decide +kernel
theorem dL_law_457 : decode cL_law 457 = .ok (.aload_n 0, 1) := by decide +kernel
theorem dL_law_458 : decode cL_law 458 = .ok (.iload_n 3, 1) := by decide +kernel
theorem dL_law_459 : decode cL_law 459 = .ok (.iconst 2, 1) := by decide +kernel
theorem dL_law_460 : decode cL_law 460 = .ok (.iadd, 1) := by decide +kernel
theorem dL_law_461 : decode cL_law 461 = .ok (.iaload, 1) := by decide +kernel
theorem dL_law_462 : decode cL_law 462 = .ok (.invokevirtual 46, 3) := by decide +kernel
theorem dL_law_465 : decode cL_law 465 = .ok (.if_icmp .eq 822, 3) := by decide +kernel
theorem dL_law_468 : decode cL_law 468 = .ok (.iconst 0, 1) := by decide +kernel
theorem dL_law_469 : decode cL_law 469 = .ok (.ireturn, 1) := by decide +kernel
theorem dL_law_470 : decode cL_law 470 = .ok (.aload_n 1, 1) := by decide +kernel
theorem dL_law_471 : decode cL_law 471 = .ok (.aload_n 0, 1) := by decide +kernel
theorem dL_law_472 : decode cL_law 472 = .ok (.iload_n 3, 1) := by decide +kernel
theorem dL_law_473 : decode cL_law 473 = .ok (.iconst 1, 1) := by decide +kernel
theorem dL_law_474 : decode cL_law 474 = .ok (.iadd, 1) := by decide +kernel
theorem dL_law_475 : decode cL_law 475 = .ok (.iaload, 1) := by decide +kernel
theorem dL_law_476 : decode cL_law 476 = .ok (.invokevirtual 47, 3) := by decide +kernel
theorem dL_law_479 : decode cL_law 479 = .ok (.aload_n 2, 1) := by decide +kernel
theorem dL_law_480 : decode cL_law 480 = .ok (.aload_n 0, 1) := by decide +kernel
theorem dL_law_481 : decode cL_law 481 = .ok (.iload_n 3, 1) := by decide +kernel
theorem dL_law_482 : decode cL_law 482 = .ok (.iconst 1, 1) := by decide +kernel
theorem dL_law_483 : decode cL_law 483 = .ok (.iadd, 1) := by decide +kernel
theorem dL_law_484 : decode cL_law 484 = .ok (.iaload, 1) := by decide +kernel
theorem dL_law_485 : decode cL_law 485 = .ok (.invokevirtual 51, 3) := by decide +kernel
theorem dL_law_488 : decode cL_law 488 = .ok (.if_icmp .eq 799, 3) := by decide +kernel
theorem dL_law_491 : decode cL_law 491 = .ok (.iconst 0, 1) := by decide +kernel
theorem dL_law_492 : decode cL_law 492 = .ok (.ireturn, 1) := by decide +kernel
theorem dL_law_493 : decode cL_law 493 = .ok (.aload_n 1, 1) := by decide +kernel
theorem dL_law_494 : decode cL_law 494 = .ok (.aload_n 0, 1) := by decide +kernel
theorem dL_law_495 : decode cL_law 495 = .ok (.iload_n 3, 1) := by decide +kernel
theorem dL_law_496 : decode cL_law 496 = .ok (.iconst 1, 1) := by decide +kernel
theorem dL_law_497 : decode cL_law 497 = .ok (.iadd, 1) := by decide +kernel
theorem dL_law_498 : decode cL_law 498 = .ok (.iaload, 1) := by decide +kernel
theorem dL_law_499 : decode cL_law 499 = .ok (.i2l, 1) := by decide +kernel
theorem dL_law_500 : decode cL_law 500 = .ok (.bipush 32, 2) := by decide +kernel
theorem dL_law_502 : decode cL_law 502 = .ok (.lshl, 1) := by decide +kernel
theorem dL_law_503 : decode cL_law 503 = .ok (.aload_n 0, 1) := by decide +kernel
theorem dL_law_504 : decode cL_law 504 = .ok (.iload_n 3, 1) := by decide +kernel
theorem dL_law_505 : decode cL_law 505 = .ok (.iconst 2, 1) := by decide +kernel
theorem dL_law_506 : decode cL_law 506 = .ok (.iadd, 1) := by decide +kernel
theorem dL_law_507 : decode cL_law 507 = .ok (.iaload, 1) := by decide +kernel
theorem dL_law_508 : decode cL_law 508 = .ok (.i2l, 1) := by decide +kernel
theorem dL_law_509 : decode cL_law 509 = .ok (.ldc2_w 52, 3) := by decide +kernel
theorem dL_law_512 : decode cL_law 512 = .ok (.land, 1) := by decide +kernel
theorem dL_law_513 : decode cL_law 513 = .ok (.lor, 1) := by decide +kernel
theorem dL_law_514 : decode cL_law 514 = .ok (.aload_n 0, 1) := by decide +kernel
theorem dL_law_515 : decode cL_law 515 = .ok (.iload_n 3, 1) := by decide +kernel
theorem dL_law_516 : decode cL_law 516 = .ok (.iconst 3, 1) := by decide +kernel
theorem dL_law_517 : decode cL_law 517 = .ok (.iadd, 1) := by decide +kernel
theorem dL_law_518 : decode cL_law 518 = .ok (.iaload, 1) := by decide +kernel
theorem dL_law_519 : decode cL_law 519 = .ok (.invokevirtual 54, 3) := by decide +kernel
theorem dL_law_522 : decode cL_law 522 = .ok (.aload_n 2, 1) := by decide +kernel
theorem dL_law_523 : decode cL_law 523 = .ok (.aload_n 0, 1) := by decide +kernel
theorem dL_law_524 : decode cL_law 524 = .ok (.iload_n 3, 1) := by decide +kernel
theorem dL_law_525 : decode cL_law 525 = .ok (.iconst 1, 1) := by decide +kernel
theorem dL_law_526 : decode cL_law 526 = .ok (.iadd, 1) := by decide +kernel
theorem dL_law_527 : decode cL_law 527 = .ok (.iaload, 1) := by decide +kernel
theorem dL_law_528 : decode cL_law 528 = .ok (.i2l, 1) := by decide +kernel
theorem dL_law_529 : decode cL_law 529 = .ok (.bipush 32, 2) := by decide +kernel
theorem dL_law_531 : decode cL_law 531 = .ok (.lshl, 1) := by decide +kernel
theorem dL_law_532 : decode cL_law 532 = .ok (.aload_n 0, 1) := by decide +kernel
theorem dL_law_533 : decode cL_law 533 = .ok (.iload_n 3, 1) := by decide +kernel
theorem dL_law_534 : decode cL_law 534 = .ok (.iconst 2, 1) := by decide +kernel
theorem dL_law_535 : decode cL_law 535 = .ok (.iadd, 1) := by decide +kernel
theorem dL_law_536 : decode cL_law 536 = .ok (.iaload, 1) := by decide +kernel
theorem dL_law_537 : decode cL_law 537 = .ok (.i2l, 1) := by decide +kernel
theorem dL_law_538 : decode cL_law 538 = .ok (.ldc2_w 52, 3) := by decide +kernel
theorem dL_law_541 : decode cL_law 541 = .ok (.land, 1) := by decide +kernel
theorem dL_law_542 : decode cL_law 542 = .ok (.lor, 1) := by decide +kernel
theorem dL_law_543 : decode cL_law 543 = .ok (.aload_n 0, 1) := by decide +kernel
theorem dL_law_544 : decode cL_law 544 = .ok (.iload_n 3, 1) := by decide +kernel
theorem dL_law_545 : decode cL_law 545 = .ok (.iconst 3, 1) := by decide +kernel
theorem dL_law_546 : decode cL_law 546 = .ok (.iadd, 1) := by decide +kernel
theorem dL_law_547 : decode cL_law 547 = .ok (.iaload, 1) := by decide +kernel
theorem dL_law_548 : decode cL_law 548 = .ok (.invokevirtual 58, 3) := by decide +kernel
theorem dL_law_551 : decode cL_law 551 = .ok (.if_icmp .eq 736, 3) := by decide +kernel
theorem dL_law_554 : decode cL_law 554 = .ok (.iconst 0, 1) := by decide +kernel
theorem dL_law_555 : decode cL_law 555 = .ok (.ireturn, 1) := by decide +kernel
theorem dL_law_556 : decode cL_law 556 = .ok (.aload_n 1, 1) := by decide +kernel
theorem dL_law_557 : decode cL_law 557 = .ok (.aload_n 0, 1) := by decide +kernel
theorem dL_law_558 : decode cL_law 558 = .ok (.iload_n 3, 1) := by decide +kernel
theorem dL_law_559 : decode cL_law 559 = .ok (.iconst 1, 1) := by decide +kernel
theorem dL_law_560 : decode cL_law 560 = .ok (.iadd, 1) := by decide +kernel
theorem dL_law_561 : decode cL_law 561 = .ok (.iaload, 1) := by decide +kernel
theorem dL_law_562 : decode cL_law 562 = .ok (.invokevirtual 59, 3) := by decide +kernel
theorem dL_law_565 : decode cL_law 565 = .ok (.aload_n 2, 1) := by decide +kernel
theorem dL_law_566 : decode cL_law 566 = .ok (.aload_n 0, 1) := by decide +kernel
theorem dL_law_567 : decode cL_law 567 = .ok (.iload_n 3, 1) := by decide +kernel
theorem dL_law_568 : decode cL_law 568 = .ok (.iconst 1, 1) := by decide +kernel
theorem dL_law_569 : decode cL_law 569 = .ok (.iadd, 1) := by decide +kernel
theorem dL_law_570 : decode cL_law 570 = .ok (.iaload, 1) := by decide +kernel
theorem dL_law_571 : decode cL_law 571 = .ok (.invokevirtual 62, 3) := by decide +kernel
theorem dL_law_574 : decode cL_law 574 = .ok (.if_icmp .eq 713, 3) := by decide +kernel
theorem dL_law_577 : decode cL_law 577 = .ok (.iconst 0, 1) := by decide +kernel
theorem dL_law_578 : decode cL_law 578 = .ok (.ireturn, 1) := by decide +kernel
theorem dL_law_579 : decode cL_law 579 = .ok (.aload_n 1, 1) := by decide +kernel
theorem dL_law_580 : decode cL_law 580 = .ok (.aload_n 0, 1) := by decide +kernel
theorem dL_law_581 : decode cL_law 581 = .ok (.iload_n 3, 1) := by decide +kernel
theorem dL_law_582 : decode cL_law 582 = .ok (.iconst 1, 1) := by decide +kernel
theorem dL_law_583 : decode cL_law 583 = .ok (.iadd, 1) := by decide +kernel
theorem dL_law_584 : decode cL_law 584 = .ok (.iaload, 1) := by decide +kernel
theorem dL_law_585 : decode cL_law 585 = .ok (.invokevirtual 63, 3) := by decide +kernel
theorem dL_law_588 : decode cL_law 588 = .ok (.aload_n 2, 1) := by decide +kernel
theorem dL_law_589 : decode cL_law 589 = .ok (.aload_n 0, 1) := by decide +kernel
theorem dL_law_590 : decode cL_law 590 = .ok (.iload_n 3, 1) := by decide +kernel
theorem dL_law_591 : decode cL_law 591 = .ok (.iconst 1, 1) := by decide +kernel
theorem dL_law_592 : decode cL_law 592 = .ok (.iadd, 1) := by decide +kernel
theorem dL_law_593 : decode cL_law 593 = .ok (.iaload, 1) := by decide +kernel
theorem dL_law_594 : decode cL_law 594 = .ok (.invokevirtual 66, 3) := by decide +kernel
theorem dL_law_597 : decode cL_law 597 = .ok (.if_icmp .eq 690, 3) := by decide +kernel
theorem dL_law_600 : decode cL_law 600 = .ok (.iconst 0, 1) := by decide +kernel
theorem dL_law_601 : decode cL_law 601 = .ok (.ireturn, 1) := by decide +kernel
theorem dL_law_602 : decode cL_law 602 = .ok (.aload_n 1, 1) := by decide +kernel
theorem dL_law_603 : decode cL_law 603 = .ok (.aload_n 0, 1) := by decide +kernel
theorem dL_law_604 : decode cL_law 604 = .ok (.iload_n 3, 1) := by decide +kernel
theorem dL_law_605 : decode cL_law 605 = .ok (.iconst 1, 1) := by decide +kernel
theorem dL_law_606 : decode cL_law 606 = .ok (.iadd, 1) := by decide +kernel
theorem dL_law_607 : decode cL_law 607 = .ok (.iaload, 1) := by decide +kernel
theorem dL_law_608 : decode cL_law 608 = .ok (.aload_n 0, 1) := by decide +kernel
theorem dL_law_609 : decode cL_law 609 = .ok (.iload_n 3, 1) := by decide +kernel
theorem dL_law_610 : decode cL_law 610 = .ok (.iconst 2, 1) := by decide +kernel
theorem dL_law_611 : decode cL_law 611 = .ok (.iadd, 1) := by decide +kernel
theorem dL_law_612 : decode cL_law 612 = .ok (.iaload, 1) := by decide +kernel
theorem dL_law_613 : decode cL_law 613 = .ok (.aload_n 0, 1) := by decide +kernel
theorem dL_law_614 : decode cL_law 614 = .ok (.iload_n 3, 1) := by decide +kernel
theorem dL_law_615 : decode cL_law 615 = .ok (.iconst 3, 1) := by decide +kernel
theorem dL_law_616 : decode cL_law 616 = .ok (.iadd, 1) := by decide +kernel
theorem dL_law_617 : decode cL_law 617 = .ok (.iaload, 1) := by decide +kernel
theorem dL_law_618 : decode cL_law 618 = .ok (.aload_n 0, 1) := by decide +kernel
theorem dL_law_619 : decode cL_law 619 = .ok (.iload_n 3, 1) := by decide +kernel
theorem dL_law_620 : decode cL_law 620 = .ok (.iconst 4, 1) := by decide +kernel
theorem dL_law_621 : decode cL_law 621 = .ok (.iadd, 1) := by decide +kernel
theorem dL_law_622 : decode cL_law 622 = .ok (.iaload, 1) := by decide +kernel
theorem dL_law_623 : decode cL_law 623 = .ok (.invokevirtual 67, 3) := by decide +kernel
theorem dL_law_626 : decode cL_law 626 = .ok (.aload_n 2, 1) := by decide +kernel
theorem dL_law_627 : decode cL_law 627 = .ok (.aload_n 0, 1) := by decide +kernel
theorem dL_law_628 : decode cL_law 628 = .ok (.iload_n 3, 1) := by decide +kernel
theorem dL_law_629 : decode cL_law 629 = .ok (.iconst 1, 1) := by decide +kernel
theorem dL_law_630 : decode cL_law 630 = .ok (.iadd, 1) := by decide +kernel
theorem dL_law_631 : decode cL_law 631 = .ok (.iaload, 1) := by decide +kernel
theorem dL_law_632 : decode cL_law 632 = .ok (.aload_n 0, 1) := by decide +kernel
theorem dL_law_633 : decode cL_law 633 = .ok (.iload_n 3, 1) := by decide +kernel
theorem dL_law_634 : decode cL_law 634 = .ok (.iconst 2, 1) := by decide +kernel
theorem dL_law_635 : decode cL_law 635 = .ok (.iadd, 1) := by decide +kernel
theorem dL_law_636 : decode cL_law 636 = .ok (.iaload, 1) := by decide +kernel
theorem dL_law_637 : decode cL_law 637 = .ok (.aload_n 0, 1) := by decide +kernel
theorem dL_law_638 : decode cL_law 638 = .ok (.iload_n 3, 1) := by decide +kernel
theorem dL_law_639 : decode cL_law 639 = .ok (.iconst 3, 1) := by decide +kernel
theorem dL_law_640 : decode cL_law 640 = .ok (.iadd, 1) := by decide +kernel
theorem dL_law_641 : decode cL_law 641 = .ok (.iaload, 1) := by decide +kernel
theorem dL_law_642 : decode cL_law 642 = .ok (.aload_n 0, 1) := by decide +kernel
theorem dL_law_643 : decode cL_law 643 = .ok (.iload_n 3, 1) := by decide +kernel
theorem dL_law_644 : decode cL_law 644 = .ok (.iconst 4, 1) := by decide +kernel
theorem dL_law_645 : decode cL_law 645 = .ok (.iadd, 1) := by decide +kernel
theorem dL_law_646 : decode cL_law 646 = .ok (.iaload, 1) := by decide +kernel
theorem dL_law_647 : decode cL_law 647 = .ok (.invokevirtual 71, 3) := by decide +kernel
theorem dL_law_650 : decode cL_law 650 = .ok (.if_icmp .eq 637, 3) := by decide +kernel
theorem dL_law_653 : decode cL_law 653 = .ok (.iconst 0, 1) := by decide +kernel
theorem dL_law_654 : decode cL_law 654 = .ok (.ireturn, 1) := by decide +kernel
theorem dL_law_655 : decode cL_law 655 = .ok (.aload_n 1, 1) := by decide +kernel
theorem dL_law_656 : decode cL_law 656 = .ok (.aload_n 0, 1) := by decide +kernel
theorem dL_law_657 : decode cL_law 657 = .ok (.iload_n 3, 1) := by decide +kernel
theorem dL_law_658 : decode cL_law 658 = .ok (.iconst 1, 1) := by decide +kernel
theorem dL_law_659 : decode cL_law 659 = .ok (.iadd, 1) := by decide +kernel
theorem dL_law_660 : decode cL_law 660 = .ok (.iaload, 1) := by decide +kernel
theorem dL_law_661 : decode cL_law 661 = .ok (.invokevirtual 72, 3) := by decide +kernel
theorem dL_law_664 : decode cL_law 664 = .ok (.aload_n 2, 1) := by decide +kernel
theorem dL_law_665 : decode cL_law 665 = .ok (.aload_n 0, 1) := by decide +kernel
theorem dL_law_666 : decode cL_law 666 = .ok (.iload_n 3, 1) := by decide +kernel
theorem dL_law_667 : decode cL_law 667 = .ok (.iconst 1, 1) := by decide +kernel
theorem dL_law_668 : decode cL_law 668 = .ok (.iadd, 1) := by decide +kernel
theorem dL_law_669 : decode cL_law 669 = .ok (.iaload, 1) := by decide +kernel
theorem dL_law_670 : decode cL_law 670 = .ok (.invokevirtual 75, 3) := by decide +kernel
theorem dL_law_673 : decode cL_law 673 = .ok (.if_icmp .eq 614, 3) := by decide +kernel
theorem dL_law_676 : decode cL_law 676 = .ok (.iconst 0, 1) := by decide +kernel
theorem dL_law_677 : decode cL_law 677 = .ok (.ireturn, 1) := by decide +kernel
theorem dL_law_678 : decode cL_law 678 = .ok (.aload_n 1, 1) := by decide +kernel
theorem dL_law_679 : decode cL_law 679 = .ok (.aload_n 0, 1) := by decide +kernel
theorem dL_law_680 : decode cL_law 680 = .ok (.iload_n 3, 1) := by decide +kernel
theorem dL_law_681 : decode cL_law 681 = .ok (.iconst 1, 1) := by decide +kernel
theorem dL_law_682 : decode cL_law 682 = .ok (.iadd, 1) := by decide +kernel
theorem dL_law_683 : decode cL_law 683 = .ok (.iaload, 1) := by decide +kernel
theorem dL_law_684 : decode cL_law 684 = .ok (.invokevirtual 76, 3) := by decide +kernel
theorem dL_law_687 : decode cL_law 687 = .ok (.aload_n 2, 1) := by decide +kernel
theorem dL_law_688 : decode cL_law 688 = .ok (.aload_n 0, 1) := by decide +kernel
theorem dL_law_689 : decode cL_law 689 = .ok (.iload_n 3, 1) := by decide +kernel
theorem dL_law_690 : decode cL_law 690 = .ok (.iconst 1, 1) := by decide +kernel
theorem dL_law_691 : decode cL_law 691 = .ok (.iadd, 1) := by decide +kernel
theorem dL_law_692 : decode cL_law 692 = .ok (.iaload, 1) := by decide +kernel
theorem dL_law_693 : decode cL_law 693 = .ok (.invokevirtual 79, 3) := by decide +kernel
theorem dL_law_696 : decode cL_law 696 = .ok (.if_icmp .eq 591, 3) := by decide +kernel
theorem dL_law_699 : decode cL_law 699 = .ok (.iconst 0, 1) := by decide +kernel
theorem dL_law_700 : decode cL_law 700 = .ok (.ireturn, 1) := by decide +kernel
theorem dL_law_701 : decode cL_law 701 = .ok (.aload_n 1, 1) := by decide +kernel
theorem dL_law_702 : decode cL_law 702 = .ok (.aload_n 0, 1) := by decide +kernel
theorem dL_law_703 : decode cL_law 703 = .ok (.iload_n 3, 1) := by decide +kernel
theorem dL_law_704 : decode cL_law 704 = .ok (.iconst 1, 1) := by decide +kernel
theorem dL_law_705 : decode cL_law 705 = .ok (.iadd, 1) := by decide +kernel
theorem dL_law_706 : decode cL_law 706 = .ok (.iaload, 1) := by decide +kernel
theorem dL_law_707 : decode cL_law 707 = .ok (.invokevirtual 80, 3) := by decide +kernel
theorem dL_law_710 : decode cL_law 710 = .ok (.aload_n 2, 1) := by decide +kernel
theorem dL_law_711 : decode cL_law 711 = .ok (.aload_n 0, 1) := by decide +kernel
theorem dL_law_712 : decode cL_law 712 = .ok (.iload_n 3, 1) := by decide +kernel
theorem dL_law_713 : decode cL_law 713 = .ok (.iconst 1, 1) := by decide +kernel
theorem dL_law_714 : decode cL_law 714 = .ok (.iadd, 1) := by decide +kernel
theorem dL_law_715 : decode cL_law 715 = .ok (.iaload, 1) := by decide +kernel
theorem dL_law_716 : decode cL_law 716 = .ok (.invokevirtual 83, 3) := by decide +kernel
theorem dL_law_719 : decode cL_law 719 = .ok (.if_icmp .eq 568, 3) := by decide +kernel
theorem dL_law_722 : decode cL_law 722 = .ok (.iconst 0, 1) := by decide +kernel
theorem dL_law_723 : decode cL_law 723 = .ok (.ireturn, 1) := by decide +kernel
theorem dL_law_724 : decode cL_law 724 = .ok (.aload_n 1, 1) := by decide +kernel
theorem dL_law_725 : decode cL_law 725 = .ok (.aload_n 0, 1) := by decide +kernel
theorem dL_law_726 : decode cL_law 726 = .ok (.iload_n 3, 1) := by decide +kernel
theorem dL_law_727 : decode cL_law 727 = .ok (.iconst 1, 1) := by decide +kernel
theorem dL_law_728 : decode cL_law 728 = .ok (.iadd, 1) := by decide +kernel
theorem dL_law_729 : decode cL_law 729 = .ok (.iaload, 1) := by decide +kernel
theorem dL_law_730 : decode cL_law 730 = .ok (.invokevirtual 84, 3) := by decide +kernel
theorem dL_law_733 : decode cL_law 733 = .ok (.aload_n 2, 1) := by decide +kernel
theorem dL_law_734 : decode cL_law 734 = .ok (.aload_n 0, 1) := by decide +kernel
theorem dL_law_735 : decode cL_law 735 = .ok (.iload_n 3, 1) := by decide +kernel
theorem dL_law_736 : decode cL_law 736 = .ok (.iconst 1, 1) := by decide +kernel
theorem dL_law_737 : decode cL_law 737 = .ok (.iadd, 1) := by decide +kernel
theorem dL_law_738 : decode cL_law 738 = .ok (.iaload, 1) := by decide +kernel
theorem dL_law_739 : decode cL_law 739 = .ok (.invokevirtual 87, 3) := by decide +kernel
theorem dL_law_742 : decode cL_law 742 = .ok (.if_icmp .eq 545, 3) := by decide +kernel
theorem dL_law_745 : decode cL_law 745 = .ok (.iconst 0, 1) := by decide +kernel
theorem dL_law_746 : decode cL_law 746 = .ok (.ireturn, 1) := by decide +kernel
theorem dL_law_747 : decode cL_law 747 = .ok (.aload_n 1, 1) := by decide +kernel
theorem dL_law_748 : decode cL_law 748 = .ok (.invokevirtual 88, 3) := by decide +kernel
theorem dL_law_751 : decode cL_law 751 = .ok (.aload_n 2, 1) := by decide +kernel
theorem dL_law_752 : decode cL_law 752 = .ok (.invokevirtual 92, 3) := by decide +kernel
theorem dL_law_755 : decode cL_law 755 = .ok (.if_icmp .eq 532, 3) := by decide +kernel
theorem dL_law_758 : decode cL_law 758 = .ok (.iconst 0, 1) := by decide +kernel
theorem dL_law_759 : decode cL_law 759 = .ok (.ireturn, 1) := by decide +kernel
theorem dL_law_760 : decode cL_law 760 = .ok (.aload_n 1, 1) := by decide +kernel
theorem dL_law_761 : decode cL_law 761 = .ok (.aload_n 0, 1) := by decide +kernel
theorem dL_law_762 : decode cL_law 762 = .ok (.iload_n 3, 1) := by decide +kernel
theorem dL_law_763 : decode cL_law 763 = .ok (.iconst 1, 1) := by decide +kernel
theorem dL_law_764 : decode cL_law 764 = .ok (.iadd, 1) := by decide +kernel
theorem dL_law_765 : decode cL_law 765 = .ok (.iaload, 1) := by decide +kernel
theorem dL_law_766 : decode cL_law 766 = .ok (.invokevirtual 93, 3) := by decide +kernel
theorem dL_law_769 : decode cL_law 769 = .ok (.aload_n 2, 1) := by decide +kernel
theorem dL_law_770 : decode cL_law 770 = .ok (.aload_n 0, 1) := by decide +kernel
theorem dL_law_771 : decode cL_law 771 = .ok (.iload_n 3, 1) := by decide +kernel
theorem dL_law_772 : decode cL_law 772 = .ok (.iconst 1, 1) := by decide +kernel
theorem dL_law_773 : decode cL_law 773 = .ok (.iadd, 1) := by decide +kernel
theorem dL_law_774 : decode cL_law 774 = .ok (.iaload, 1) := by decide +kernel
theorem dL_law_775 : decode cL_law 775 = .ok (.invokevirtual 96, 3) := by decide +kernel
theorem dL_law_778 : decode cL_law 778 = .ok (.if_icmp .eq 509, 3) := by decide +kernel
theorem dL_law_781 : decode cL_law 781 = .ok (.iconst 0, 1) := by decide +kernel
theorem dL_law_782 : decode cL_law 782 = .ok (.ireturn, 1) := by decide +kernel
theorem dL_law_783 : decode cL_law 783 = .ok (.aload_n 1, 1) := by decide +kernel
theorem dL_law_784 : decode cL_law 784 = .ok (.aload_n 0, 1) := by decide +kernel
theorem dL_law_785 : decode cL_law 785 = .ok (.iload_n 3, 1) := by decide +kernel
theorem dL_law_786 : decode cL_law 786 = .ok (.iconst 1, 1) := by decide +kernel
theorem dL_law_787 : decode cL_law 787 = .ok (.iadd, 1) := by decide +kernel
theorem dL_law_788 : decode cL_law 788 = .ok (.iaload, 1) := by decide +kernel
theorem dL_law_789 : decode cL_law 789 = .ok (.aload_n 0, 1) := by decide +kernel
theorem dL_law_790 : decode cL_law 790 = .ok (.iload_n 3, 1) := by decide +kernel
theorem dL_law_791 : decode cL_law 791 = .ok (.iconst 2, 1) := by decide +kernel
theorem dL_law_792 : decode cL_law 792 = .ok (.iadd, 1) := by decide +kernel
theorem dL_law_793 : decode cL_law 793 = .ok (.iaload, 1) := by decide +kernel
theorem dL_law_794 : decode cL_law 794 = .ok (.invokevirtual 97, 3) := by decide +kernel
theorem dL_law_797 : decode cL_law 797 = .ok (.aload_n 2, 1) := by decide +kernel
theorem dL_law_798 : decode cL_law 798 = .ok (.aload_n 0, 1) := by decide +kernel
theorem dL_law_799 : decode cL_law 799 = .ok (.iload_n 3, 1) := by decide +kernel
theorem dL_law_800 : decode cL_law 800 = .ok (.iconst 1, 1) := by decide +kernel
theorem dL_law_801 : decode cL_law 801 = .ok (.iadd, 1) := by decide +kernel
theorem dL_law_802 : decode cL_law 802 = .ok (.iaload, 1) := by decide +kernel
theorem dL_law_803 : decode cL_law 803 = .ok (.aload_n 0, 1) := by decide +kernel
theorem dL_law_804 : decode cL_law 804 = .ok (.iload_n 3, 1) := by decide +kernel
theorem dL_law_805 : decode cL_law 805 = .ok (.iconst 2, 1) := by decide +kernel
theorem dL_law_806 : decode cL_law 806 = .ok (.iadd, 1) := by decide +kernel
theorem dL_law_807 : decode cL_law 807 = .ok (.iaload, 1) := by decide +kernel
theorem dL_law_808 : decode cL_law 808 = .ok (.invokevirtual 100, 3) := by decide +kernel
theorem dL_law_811 : decode cL_law 811 = .ok (.if_icmp .eq 476, 3) := by decide +kernel
theorem dL_law_814 : decode cL_law 814 = .ok (.iconst 0, 1) := by decide +kernel
theorem dL_law_815 : decode cL_law 815 = .ok (.ireturn, 1) := by decide +kernel
theorem dL_law_816 : decode cL_law 816 = .ok (.aload_n 1, 1) := by decide +kernel
theorem dL_law_817 : decode cL_law 817 = .ok (.aload_n 0, 1) := by decide +kernel
theorem dL_law_818 : decode cL_law 818 = .ok (.iload_n 3, 1) := by decide +kernel
theorem dL_law_819 : decode cL_law 819 = .ok (.iconst 1, 1) := by decide +kernel
theorem dL_law_820 : decode cL_law 820 = .ok (.iadd, 1) := by decide +kernel
theorem dL_law_821 : decode cL_law 821 = .ok (.iaload, 1) := by decide +kernel
theorem dL_law_822 : decode cL_law 822 = .ok (.invokevirtual 101, 3) := by decide +kernel
theorem dL_law_825 : decode cL_law 825 = .ok (.aload_n 2, 1) := by decide +kernel
theorem dL_law_826 : decode cL_law 826 = .ok (.aload_n 0, 1) := by decide +kernel
theorem dL_law_827 : decode cL_law 827 = .ok (.iload_n 3, 1) := by decide +kernel
theorem dL_law_828 : decode cL_law 828 = .ok (.iconst 1, 1) := by decide +kernel
theorem dL_law_829 : decode cL_law 829 = .ok (.iadd, 1) := by decide +kernel
theorem dL_law_830 : decode cL_law 830 = .ok (.iaload, 1) := by decide +kernel
theorem dL_law_831 : decode cL_law 831 = .ok (.invokevirtual 104, 3) := by decide +kernel
theorem dL_law_834 : decode cL_law 834 = .ok (.if_icmp .eq 453, 3) := by decide +kernel
theorem dL_law_837 : decode cL_law 837 = .ok (.iconst 0, 1) := by decide +kernel
theorem dL_law_838 : decode cL_law 838 = .ok (.ireturn, 1) := by decide +kernel
theorem dL_law_839 : decode cL_law 839 = .ok (.aload_n 1, 1) := by decide +kernel
theorem dL_law_840 : decode cL_law 840 = .ok (.aload_n 0, 1) := by decide +kernel
theorem dL_law_841 : decode cL_law 841 = .ok (.iload_n 3, 1) := by decide +kernel
theorem dL_law_842 : decode cL_law 842 = .ok (.iconst 1, 1) := by decide +kernel
theorem dL_law_843 : decode cL_law 843 = .ok (.iadd, 1) := by decide +kernel
theorem dL_law_844 : decode cL_law 844 = .ok (.iaload, 1) := by decide +kernel
theorem dL_law_845 : decode cL_law 845 = .ok (.aload_n 0, 1) := by decide +kernel
theorem dL_law_846 : decode cL_law 846 = .ok (.iload_n 3, 1) := by decide +kernel
theorem dL_law_847 : decode cL_law 847 = .ok (.iconst 2, 1) := by decide +kernel
theorem dL_law_848 : decode cL_law 848 = .ok (.iadd, 1) := by decide +kernel
theorem dL_law_849 : decode cL_law 849 = .ok (.iaload, 1) := by decide +kernel
theorem dL_law_850 : decode cL_law 850 = .ok (.invokevirtual 105, 3) := by decide +kernel
theorem dL_law_853 : decode cL_law 853 = .ok (.aload_n 2, 1) := by decide +kernel
theorem dL_law_854 : decode cL_law 854 = .ok (.aload_n 0, 1) := by decide +kernel
theorem dL_law_855 : decode cL_law 855 = .ok (.iload_n 3, 1) := by decide +kernel
theorem dL_law_856 : decode cL_law 856 = .ok (.iconst 1, 1) := by decide +kernel
theorem dL_law_857 : decode cL_law 857 = .ok (.iadd, 1) := by decide +kernel
theorem dL_law_858 : decode cL_law 858 = .ok (.iaload, 1) := by decide +kernel
theorem dL_law_859 : decode cL_law 859 = .ok (.aload_n 0, 1) := by decide +kernel
theorem dL_law_860 : decode cL_law 860 = .ok (.iload_n 3, 1) := by decide +kernel
theorem dL_law_861 : decode cL_law 861 = .ok (.iconst 2, 1) := by decide +kernel
theorem dL_law_862 : decode cL_law 862 = .ok (.iadd, 1) := by decide +kernel
theorem dL_law_863 : decode cL_law 863 = .ok (.iaload, 1) := by decide +kernel
theorem dL_law_864 : decode cL_law 864 = .ok (.invokevirtual 108, 3) := by decide +kernel
theorem dL_law_867 : decode cL_law 867 = .ok (.if_icmp .eq 420, 3) := by decide +kernel
theorem dL_law_870 : decode cL_law 870 = .ok (.iconst 0, 1) := by decide +kernel
theorem dL_law_871 : decode cL_law 871 = .ok (.ireturn, 1) := by decide +kernel
theorem dL_law_872 : decode cL_law 872 = .ok (.aload_n 1, 1) := by decide +kernel
theorem dL_law_873 : decode cL_law 873 = .ok (.aload_n 0, 1) := by decide +kernel
theorem dL_law_874 : decode cL_law 874 = .ok (.iload_n 3, 1) := by decide +kernel
theorem dL_law_875 : decode cL_law 875 = .ok (.iconst 1, 1) := by decide +kernel
theorem dL_law_876 : decode cL_law 876 = .ok (.iadd, 1) := by decide +kernel
theorem dL_law_877 : decode cL_law 877 = .ok (.iaload, 1) := by decide +kernel
theorem dL_law_878 : decode cL_law 878 = .ok (.invokevirtual 109, 3) := by decide +kernel
theorem dL_law_881 : decode cL_law 881 = .ok (.aload_n 2, 1) := by decide +kernel
theorem dL_law_882 : decode cL_law 882 = .ok (.aload_n 0, 1) := by decide +kernel
theorem dL_law_883 : decode cL_law 883 = .ok (.iload_n 3, 1) := by decide +kernel
theorem dL_law_884 : decode cL_law 884 = .ok (.iconst 1, 1) := by decide +kernel
theorem dL_law_885 : decode cL_law 885 = .ok (.iadd, 1) := by decide +kernel
theorem dL_law_886 : decode cL_law 886 = .ok (.iaload, 1) := by decide +kernel
theorem dL_law_887 : decode cL_law 887 = .ok (.invokevirtual 112, 3) := by decide +kernel
theorem dL_law_890 : decode cL_law 890 = .ok (.if_icmp .eq 397, 3) := by decide +kernel
theorem dL_law_893 : decode cL_law 893 = .ok (.iconst 0, 1) := by decide +kernel
theorem dL_law_894 : decode cL_law 894 = .ok (.ireturn, 1) := by decide +kernel
theorem dL_law_895 : decode cL_law 895 = .ok (.aload_n 1, 1) := by decide +kernel
theorem dL_law_896 : decode cL_law 896 = .ok (.aload_n 0, 1) := by decide +kernel
theorem dL_law_897 : decode cL_law 897 = .ok (.iload_n 3, 1) := by decide +kernel
theorem dL_law_898 : decode cL_law 898 = .ok (.iconst 1, 1) := by decide +kernel
theorem dL_law_899 : decode cL_law 899 = .ok (.iadd, 1) := by decide +kernel
theorem dL_law_900 : decode cL_law 900 = .ok (.iaload, 1) := by decide +kernel
theorem dL_law_901 : decode cL_law 901 = .ok (.invokevirtual 113, 3) := by decide +kernel
theorem dL_law_904 : decode cL_law 904 = .ok (.aload_n 2, 1) := by decide +kernel
theorem dL_law_905 : decode cL_law 905 = .ok (.aload_n 0, 1) := by decide +kernel
theorem dL_law_906 : decode cL_law 906 = .ok (.iload_n 3, 1) := by decide +kernel
theorem dL_law_907 : decode cL_law 907 = .ok (.iconst 1, 1) := by decide +kernel
theorem dL_law_908 : decode cL_law 908 = .ok (.iadd, 1) := by decide +kernel
theorem dL_law_909 : decode cL_law 909 = .ok (.iaload, 1) := by decide +kernel
theorem dL_law_910 : decode cL_law 910 = .ok (.invokevirtual 116, 3) := by decide +kernel
theorem dL_law_913 : decode cL_law 913 = .ok (.if_icmp .eq 374, 3) := by decide +kernel
theorem dL_law_916 : decode cL_law 916 = .ok (.iconst 0, 1) := by decide +kernel
theorem dL_law_917 : decode cL_law 917 = .ok (.ireturn, 1) := by decide +kernel
theorem dL_law_918 : decode cL_law 918 = .ok (.aload_n 1, 1) := by decide +kernel
theorem dL_law_919 : decode cL_law 919 = .ok (.aload_n 0, 1) := by decide +kernel
theorem dL_law_920 : decode cL_law 920 = .ok (.iload_n 3, 1) := by decide +kernel
theorem dL_law_921 : decode cL_law 921 = .ok (.iconst 1, 1) := by decide +kernel
theorem dL_law_922 : decode cL_law 922 = .ok (.iadd, 1) := by decide +kernel
theorem dL_law_923 : decode cL_law 923 = .ok (.iaload, 1) := by decide +kernel
theorem dL_law_924 : decode cL_law 924 = .ok (.aload_n 0, 1) := by decide +kernel
theorem dL_law_925 : decode cL_law 925 = .ok (.iload_n 3, 1) := by decide +kernel
theorem dL_law_926 : decode cL_law 926 = .ok (.iconst 2, 1) := by decide +kernel
theorem dL_law_927 : decode cL_law 927 = .ok (.iadd, 1) := by decide +kernel
theorem dL_law_928 : decode cL_law 928 = .ok (.iaload, 1) := by decide +kernel
theorem dL_law_929 : decode cL_law 929 = .ok (.aload_n 0, 1) := by decide +kernel
theorem dL_law_930 : decode cL_law 930 = .ok (.iload_n 3, 1) := by decide +kernel
theorem dL_law_931 : decode cL_law 931 = .ok (.iconst 3, 1) := by decide +kernel
theorem dL_law_932 : decode cL_law 932 = .ok (.iadd, 1) := by decide +kernel
theorem dL_law_933 : decode cL_law 933 = .ok (.iaload, 1) := by decide +kernel
theorem dL_law_934 : decode cL_law 934 = .ok (.invokevirtual 117, 3) := by decide +kernel
theorem dL_law_937 : decode cL_law 937 = .ok (.aload_n 2, 1) := by decide +kernel
theorem dL_law_938 : decode cL_law 938 = .ok (.aload_n 0, 1) := by decide +kernel
theorem dL_law_939 : decode cL_law 939 = .ok (.iload_n 3, 1) := by decide +kernel
theorem dL_law_940 : decode cL_law 940 = .ok (.iconst 1, 1) := by decide +kernel
theorem dL_law_941 : decode cL_law 941 = .ok (.iadd, 1) := by decide +kernel
theorem dL_law_942 : decode cL_law 942 = .ok (.iaload, 1) := by decide +kernel
theorem dL_law_943 : decode cL_law 943 = .ok (.aload_n 0, 1) := by decide +kernel
theorem dL_law_944 : decode cL_law 944 = .ok (.iload_n 3, 1) := by decide +kernel
theorem dL_law_945 : decode cL_law 945 = .ok (.iconst 2, 1) := by decide +kernel
theorem dL_law_946 : decode cL_law 946 = .ok (.iadd, 1) := by decide +kernel
theorem dL_law_947 : decode cL_law 947 = .ok (.iaload, 1) := by decide +kernel
theorem dL_law_948 : decode cL_law 948 = .ok (.aload_n 0, 1) := by decide +kernel
theorem dL_law_949 : decode cL_law 949 = .ok (.iload_n 3, 1) := by decide +kernel
theorem dL_law_950 : decode cL_law 950 = .ok (.iconst 3, 1) := by decide +kernel
theorem dL_law_951 : decode cL_law 951 = .ok (.iadd, 1) := by decide +kernel
theorem dL_law_952 : decode cL_law 952 = .ok (.iaload, 1) := by decide +kernel
theorem dL_law_953 : decode cL_law 953 = .ok (.invokevirtual 120, 3) := by decide +kernel
theorem dL_law_956 : decode cL_law 956 = .ok (.if_icmp .eq 331, 3) := by decide +kernel
theorem dL_law_959 : decode cL_law 959 = .ok (.iconst 0, 1) := by decide +kernel
theorem dL_law_960 : decode cL_law 960 = .ok (.ireturn, 1) := by decide +kernel
theorem dL_law_961 : decode cL_law 961 = .ok (.aload_n 1, 1) := by decide +kernel
theorem dL_law_962 : decode cL_law 962 = .ok (.aload_n 0, 1) := by decide +kernel
theorem dL_law_963 : decode cL_law 963 = .ok (.iload_n 3, 1) := by decide +kernel
theorem dL_law_964 : decode cL_law 964 = .ok (.iconst 1, 1) := by decide +kernel
theorem dL_law_965 : decode cL_law 965 = .ok (.iadd, 1) := by decide +kernel
theorem dL_law_966 : decode cL_law 966 = .ok (.iaload, 1) := by decide +kernel
theorem dL_law_967 : decode cL_law 967 = .ok (.invokevirtual 121, 3) := by decide +kernel
theorem dL_law_970 : decode cL_law 970 = .ok (.aload_n 2, 1) := by decide +kernel
theorem dL_law_971 : decode cL_law 971 = .ok (.aload_n 0, 1) := by decide +kernel
theorem dL_law_972 : decode cL_law 972 = .ok (.iload_n 3, 1) := by decide +kernel
theorem dL_law_973 : decode cL_law 973 = .ok (.iconst 1, 1) := by decide +kernel
theorem dL_law_974 : decode cL_law 974 = .ok (.iadd, 1) := by decide +kernel
theorem dL_law_975 : decode cL_law 975 = .ok (.iaload, 1) := by decide +kernel
theorem dL_law_976 : decode cL_law 976 = .ok (.invokevirtual 124, 3) := by decide +kernel
theorem dL_law_979 : decode cL_law 979 = .ok (.if_icmp .eq 308, 3) := by decide +kernel
theorem dL_law_982 : decode cL_law 982 = .ok (.iconst 0, 1) := by decide +kernel
theorem dL_law_983 : decode cL_law 983 = .ok (.ireturn, 1) := by decide +kernel
theorem dL_law_984 : decode cL_law 984 = .ok (.aload_n 1, 1) := by decide +kernel
theorem dL_law_985 : decode cL_law 985 = .ok (.aload_n 0, 1) := by decide +kernel
theorem dL_law_986 : decode cL_law 986 = .ok (.iload_n 3, 1) := by decide +kernel
theorem dL_law_987 : decode cL_law 987 = .ok (.iconst 1, 1) := by decide +kernel
theorem dL_law_988 : decode cL_law 988 = .ok (.iadd, 1) := by decide +kernel
theorem dL_law_989 : decode cL_law 989 = .ok (.iaload, 1) := by decide +kernel
theorem dL_law_990 : decode cL_law 990 = .ok (.aload_n 0, 1) := by decide +kernel
theorem dL_law_991 : decode cL_law 991 = .ok (.iload_n 3, 1) := by decide +kernel
theorem dL_law_992 : decode cL_law 992 = .ok (.iconst 2, 1) := by decide +kernel
theorem dL_law_993 : decode cL_law 993 = .ok (.iadd, 1) := by decide +kernel
theorem dL_law_994 : decode cL_law 994 = .ok (.iaload, 1) := by decide +kernel
theorem dL_law_995 : decode cL_law 995 = .ok (.aload_n 0, 1) := by decide +kernel
theorem dL_law_996 : decode cL_law 996 = .ok (.iload_n 3, 1) := by decide +kernel
theorem dL_law_997 : decode cL_law 997 = .ok (.iconst 3, 1) := by decide +kernel
theorem dL_law_998 : decode cL_law 998 = .ok (.iadd, 1) := by decide +kernel
theorem dL_law_999 : decode cL_law 999 = .ok (.iaload, 1) := by decide +kernel
theorem dL_law_1000 : decode cL_law 1000 = .ok (.invokevirtual 125, 3) := by decide +kernel
theorem dL_law_1003 : decode cL_law 1003 = .ok (.aload_n 2, 1) := by decide +kernel
theorem dL_law_1004 : decode cL_law 1004 = .ok (.aload_n 0, 1) := by decide +kernel
theorem dL_law_1005 : decode cL_law 1005 = .ok (.iload_n 3, 1) := by decide +kernel
theorem dL_law_1006 : decode cL_law 1006 = .ok (.iconst 1, 1) := by decide +kernel
theorem dL_law_1007 : decode cL_law 1007 = .ok (.iadd, 1) := by decide +kernel
theorem dL_law_1008 : decode cL_law 1008 = .ok (.iaload, 1) := by decide +kernel
theorem dL_law_1009 : decode cL_law 1009 = .ok (.aload_n 0, 1) := by decide +kernel
theorem dL_law_1010 : decode cL_law 1010 = .ok (.iload_n 3, 1) := by decide +kernel
theorem dL_law_1011 : decode cL_law 1011 = .ok (.iconst 2, 1) := by decide +kernel
theorem dL_law_1012 : decode cL_law 1012 = .ok (.iadd, 1) := by decide +kernel
theorem dL_law_1013 : decode cL_law 1013 = .ok (.iaload, 1) := by decide +kernel
theorem dL_law_1014 : decode cL_law 1014 = .ok (.aload_n 0, 1) := by decide +kernel
theorem dL_law_1015 : decode cL_law 1015 = .ok (.iload_n 3, 1) := by decide +kernel
theorem dL_law_1016 : decode cL_law 1016 = .ok (.iconst 3, 1) := by decide +kernel
theorem dL_law_1017 : decode cL_law 1017 = .ok (.iadd, 1) := by decide +kernel
theorem dL_law_1018 : decode cL_law 1018 = .ok (.iaload, 1) := by decide +kernel
theorem dL_law_1019 : decode cL_law 1019 = .ok (.invokevirtual 128, 3) := by decide +kernel
theorem dL_law_1022 : decode cL_law 1022 = .ok (.if_icmp .eq 265, 3) := by decide +kernel
theorem dL_law_1025 : decode cL_law 1025 = .ok (.iconst 0, 1) := by decide +kernel
theorem dL_law_1026 : decode cL_law 1026 = .ok (.ireturn, 1) := by decide +kernel
theorem dL_law_1027 : decode cL_law 1027 = .ok (.aload_n 1, 1) := by decide +kernel
theorem dL_law_1028 : decode cL_law 1028 = .ok (.aload_n 0, 1) := by decide +kernel
theorem dL_law_1029 : decode cL_law 1029 = .ok (.iload_n 3, 1) := by decide +kernel
theorem dL_law_1030 : decode cL_law 1030 = .ok (.iconst 1, 1) := by decide +kernel
theorem dL_law_1031 : decode cL_law 1031 = .ok (.iadd, 1) := by decide +kernel
theorem dL_law_1032 : decode cL_law 1032 = .ok (.iaload, 1) := by decide +kernel
theorem dL_law_1033 : decode cL_law 1033 = .ok (.aload_n 0, 1) := by decide +kernel
theorem dL_law_1034 : decode cL_law 1034 = .ok (.iload_n 3, 1) := by decide +kernel
theorem dL_law_1035 : decode cL_law 1035 = .ok (.iconst 2, 1) := by decide +kernel
theorem dL_law_1036 : decode cL_law 1036 = .ok (.iadd, 1) := by decide +kernel
theorem dL_law_1037 : decode cL_law 1037 = .ok (.iaload, 1) := by decide +kernel
theorem dL_law_1038 : decode cL_law 1038 = .ok (.aload_n 0, 1) := by decide +kernel
theorem dL_law_1039 : decode cL_law 1039 = .ok (.iload_n 3, 1) := by decide +kernel
theorem dL_law_1040 : decode cL_law 1040 = .ok (.iconst 3, 1) := by decide +kernel
theorem dL_law_1041 : decode cL_law 1041 = .ok (.iadd, 1) := by decide +kernel
theorem dL_law_1042 : decode cL_law 1042 = .ok (.iaload, 1) := by decide +kernel
theorem dL_law_1043 : decode cL_law 1043 = .ok (.invokevirtual 129, 3) := by decide +kernel
theorem dL_law_1046 : decode cL_law 1046 = .ok (.aload_n 2, 1) := by decide +kernel
theorem dL_law_1047 : decode cL_law 1047 = .ok (.aload_n 0, 1) := by decide +kernel
theorem dL_law_1048 : decode cL_law 1048 = .ok (.iload_n 3, 1) := by decide +kernel
theorem dL_law_1049 : decode cL_law 1049 = .ok (.iconst 1, 1) := by decide +kernel
theorem dL_law_1050 : decode cL_law 1050 = .ok (.iadd, 1) := by decide +kernel
theorem dL_law_1051 : decode cL_law 1051 = .ok (.iaload, 1) := by decide +kernel
theorem dL_law_1052 : decode cL_law 1052 = .ok (.aload_n 0, 1) := by decide +kernel
theorem dL_law_1053 : decode cL_law 1053 = .ok (.iload_n 3, 1) := by decide +kernel
theorem dL_law_1054 : decode cL_law 1054 = .ok (.iconst 2, 1) := by decide +kernel
theorem dL_law_1055 : decode cL_law 1055 = .ok (.iadd, 1) := by decide +kernel
theorem dL_law_1056 : decode cL_law 1056 = .ok (.iaload, 1) := by decide +kernel
theorem dL_law_1057 : decode cL_law 1057 = .ok (.aload_n 0, 1) := by decide +kernel
theorem dL_law_1058 : decode cL_law 1058 = .ok (.iload_n 3, 1) := by decide +kernel
theorem dL_law_1059 : decode cL_law 1059 = .ok (.iconst 3, 1) := by decide +kernel
theorem dL_law_1060 : decode cL_law 1060 = .ok (.iadd, 1) := by decide +kernel
theorem dL_law_1061 : decode cL_law 1061 = .ok (.iaload, 1) := by decide +kernel
theorem dL_law_1062 : decode cL_law 1062 = .ok (.invokevirtual 132, 3) := by decide +kernel
theorem dL_law_1065 : decode cL_law 1065 = .ok (.if_icmp .eq 222, 3) := by decide +kernel
theorem dL_law_1068 : decode cL_law 1068 = .ok (.iconst 0, 1) := by decide +kernel
theorem dL_law_1069 : decode cL_law 1069 = .ok (.ireturn, 1) := by decide +kernel
theorem dL_law_1070 : decode cL_law 1070 = .ok (.aload_n 1, 1) := by decide +kernel
theorem dL_law_1071 : decode cL_law 1071 = .ok (.aload_n 0, 1) := by decide +kernel
theorem dL_law_1072 : decode cL_law 1072 = .ok (.iload_n 3, 1) := by decide +kernel
theorem dL_law_1073 : decode cL_law 1073 = .ok (.iconst 1, 1) := by decide +kernel
theorem dL_law_1074 : decode cL_law 1074 = .ok (.iadd, 1) := by decide +kernel
theorem dL_law_1075 : decode cL_law 1075 = .ok (.iaload, 1) := by decide +kernel
theorem dL_law_1076 : decode cL_law 1076 = .ok (.aload_n 0, 1) := by decide +kernel
theorem dL_law_1077 : decode cL_law 1077 = .ok (.iload_n 3, 1) := by decide +kernel
theorem dL_law_1078 : decode cL_law 1078 = .ok (.iconst 2, 1) := by decide +kernel
theorem dL_law_1079 : decode cL_law 1079 = .ok (.iadd, 1) := by decide +kernel
theorem dL_law_1080 : decode cL_law 1080 = .ok (.iaload, 1) := by decide +kernel
theorem dL_law_1081 : decode cL_law 1081 = .ok (.aload_n 0, 1) := by decide +kernel
theorem dL_law_1082 : decode cL_law 1082 = .ok (.iload_n 3, 1) := by decide +kernel
theorem dL_law_1083 : decode cL_law 1083 = .ok (.iconst 3, 1) := by decide +kernel
theorem dL_law_1084 : decode cL_law 1084 = .ok (.iadd, 1) := by decide +kernel
theorem dL_law_1085 : decode cL_law 1085 = .ok (.iaload, 1) := by decide +kernel
theorem dL_law_1086 : decode cL_law 1086 = .ok (.aload_n 0, 1) := by decide +kernel
theorem dL_law_1087 : decode cL_law 1087 = .ok (.iload_n 3, 1) := by decide +kernel
theorem dL_law_1088 : decode cL_law 1088 = .ok (.iconst 4, 1) := by decide +kernel
theorem dL_law_1089 : decode cL_law 1089 = .ok (.iadd, 1) := by decide +kernel
theorem dL_law_1090 : decode cL_law 1090 = .ok (.iaload, 1) := by decide +kernel
theorem dL_law_1091 : decode cL_law 1091 = .ok (.aload_n 0, 1) := by decide +kernel
theorem dL_law_1092 : decode cL_law 1092 = .ok (.iload_n 3, 1) := by decide +kernel
theorem dL_law_1093 : decode cL_law 1093 = .ok (.iconst 5, 1) := by decide +kernel
theorem dL_law_1094 : decode cL_law 1094 = .ok (.iadd, 1) := by decide +kernel
theorem dL_law_1095 : decode cL_law 1095 = .ok (.iaload, 1) := by decide +kernel
theorem dL_law_1096 : decode cL_law 1096 = .ok (.invokevirtual 133, 3) := by decide +kernel
theorem dL_law_1099 : decode cL_law 1099 = .ok (.aload_n 2, 1) := by decide +kernel
theorem dL_law_1100 : decode cL_law 1100 = .ok (.aload_n 0, 1) := by decide +kernel
theorem dL_law_1101 : decode cL_law 1101 = .ok (.iload_n 3, 1) := by decide +kernel
theorem dL_law_1102 : decode cL_law 1102 = .ok (.iconst 1, 1) := by decide +kernel
theorem dL_law_1103 : decode cL_law 1103 = .ok (.iadd, 1) := by decide +kernel
theorem dL_law_1104 : decode cL_law 1104 = .ok (.iaload, 1) := by decide +kernel
theorem dL_law_1105 : decode cL_law 1105 = .ok (.aload_n 0, 1) := by decide +kernel
theorem dL_law_1106 : decode cL_law 1106 = .ok (.iload_n 3, 1) := by decide +kernel
theorem dL_law_1107 : decode cL_law 1107 = .ok (.iconst 2, 1) := by decide +kernel
theorem dL_law_1108 : decode cL_law 1108 = .ok (.iadd, 1) := by decide +kernel
theorem dL_law_1109 : decode cL_law 1109 = .ok (.iaload, 1) := by decide +kernel
theorem dL_law_1110 : decode cL_law 1110 = .ok (.aload_n 0, 1) := by decide +kernel
theorem dL_law_1111 : decode cL_law 1111 = .ok (.iload_n 3, 1) := by decide +kernel
theorem dL_law_1112 : decode cL_law 1112 = .ok (.iconst 3, 1) := by decide +kernel
theorem dL_law_1113 : decode cL_law 1113 = .ok (.iadd, 1) := by decide +kernel
theorem dL_law_1114 : decode cL_law 1114 = .ok (.iaload, 1) := by decide +kernel
theorem dL_law_1115 : decode cL_law 1115 = .ok (.aload_n 0, 1) := by decide +kernel
theorem dL_law_1116 : decode cL_law 1116 = .ok (.iload_n 3, 1) := by decide +kernel
theorem dL_law_1117 : decode cL_law 1117 = .ok (.iconst 4, 1) := by decide +kernel
theorem dL_law_1118 : decode cL_law 1118 = .ok (.iadd, 1) := by decide +kernel
theorem dL_law_1119 : decode cL_law 1119 = .ok (.iaload, 1) := by decide +kernel
theorem dL_law_1120 : decode cL_law 1120 = .ok (.aload_n 0, 1) := by decide +kernel
theorem dL_law_1121 : decode cL_law 1121 = .ok (.iload_n 3, 1) := by decide +kernel
theorem dL_law_1122 : decode cL_law 1122 = .ok (.iconst 5, 1) := by decide +kernel
theorem dL_law_1123 : decode cL_law 1123 = .ok (.iadd, 1) := by decide +kernel
theorem dL_law_1124 : decode cL_law 1124 = .ok (.iaload, 1) := by decide +kernel
theorem dL_law_1125 : decode cL_law 1125 = .ok (.invokevirtual 137, 3) := by decide +kernel
theorem dL_law_1128 : decode cL_law 1128 = .ok (.if_icmp .eq 159, 3) := by decide +kernel
theorem dL_law_1131 : decode cL_law 1131 = .ok (.iconst 0, 1) := by decide +kernel
theorem dL_law_1132 : decode cL_law 1132 = .ok (.ireturn, 1) := by decide +kernel
theorem dL_law_1133 : decode cL_law 1133 = .ok (.aload_n 1, 1) := by decide +kernel
theorem dL_law_1134 : decode cL_law 1134 = .ok (.aload_n 0, 1) := by decide +kernel
theorem dL_law_1135 : decode cL_law 1135 = .ok (.iload_n 3, 1) := by decide +kernel
theorem dL_law_1136 : decode cL_law 1136 = .ok (.iconst 1, 1) := by decide +kernel
theorem dL_law_1137 : decode cL_law 1137 = .ok (.iadd, 1) := by decide +kernel
theorem dL_law_1138 : decode cL_law 1138 = .ok (.iaload, 1) := by decide +kernel
theorem dL_law_1139 : decode cL_law 1139 = .ok (.invokevirtual 138, 3) := by decide +kernel
theorem dL_law_1142 : decode cL_law 1142 = .ok (.aload_n 2, 1) := by decide +kernel
theorem dL_law_1143 : decode cL_law 1143 = .ok (.aload_n 0, 1) := by decide +kernel
theorem dL_law_1144 : decode cL_law 1144 = .ok (.iload_n 3, 1) := by decide +kernel
theorem dL_law_1145 : decode cL_law 1145 = .ok (.iconst 1, 1) := by decide +kernel
theorem dL_law_1146 : decode cL_law 1146 = .ok (.iadd, 1) := by decide +kernel
theorem dL_law_1147 : decode cL_law 1147 = .ok (.iaload, 1) := by decide +kernel
theorem dL_law_1148 : decode cL_law 1148 = .ok (.invokevirtual 141, 3) := by decide +kernel
theorem dL_law_1151 : decode cL_law 1151 = .ok (.if_icmp .eq 136, 3) := by decide +kernel
theorem dL_law_1154 : decode cL_law 1154 = .ok (.iconst 0, 1) := by decide +kernel
theorem dL_law_1155 : decode cL_law 1155 = .ok (.ireturn, 1) := by decide +kernel
theorem dL_law_1156 : decode cL_law 1156 = .ok (.aload_n 1, 1) := by decide +kernel
theorem dL_law_1157 : decode cL_law 1157 = .ok (.aload_n 0, 1) := by decide +kernel
theorem dL_law_1158 : decode cL_law 1158 = .ok (.iload_n 3, 1) := by decide +kernel
theorem dL_law_1159 : decode cL_law 1159 = .ok (.iconst 1, 1) := by decide +kernel
theorem dL_law_1160 : decode cL_law 1160 = .ok (.iadd, 1) := by decide +kernel
theorem dL_law_1161 : decode cL_law 1161 = .ok (.iaload, 1) := by decide +kernel
theorem dL_law_1162 : decode cL_law 1162 = .ok (.invokevirtual 142, 3) := by decide +kernel
theorem dL_law_1165 : decode cL_law 1165 = .ok (.aload_n 2, 1) := by decide +kernel
theorem dL_law_1166 : decode cL_law 1166 = .ok (.aload_n 0, 1) := by decide +kernel
theorem dL_law_1167 : decode cL_law 1167 = .ok (.iload_n 3, 1) := by decide +kernel
theorem dL_law_1168 : decode cL_law 1168 = .ok (.iconst 1, 1) := by decide +kernel
theorem dL_law_1169 : decode cL_law 1169 = .ok (.iadd, 1) := by decide +kernel
theorem dL_law_1170 : decode cL_law 1170 = .ok (.iaload, 1) := by decide +kernel
theorem dL_law_1171 : decode cL_law 1171 = .ok (.invokevirtual 145, 3) := by decide +kernel
theorem dL_law_1174 : decode cL_law 1174 = .ok (.if_icmp .eq 113, 3) := by decide +kernel
theorem dL_law_1177 : decode cL_law 1177 = .ok (.iconst 0, 1) := by decide +kernel
theorem dL_law_1178 : decode cL_law 1178 = .ok (.ireturn, 1) := by decide +kernel
theorem dL_law_1179 : decode cL_law 1179 = .ok (.aload_n 1, 1) := by decide +kernel
theorem dL_law_1180 : decode cL_law 1180 = .ok (.invokevirtual 146, 3) := by decide +kernel
theorem dL_law_1183 : decode cL_law 1183 = .ok (.aload_n 2, 1) := by decide +kernel
theorem dL_law_1184 : decode cL_law 1184 = .ok (.invokevirtual 149, 3) := by decide +kernel
theorem dL_law_1187 : decode cL_law 1187 = .ok (.if_icmp .eq 100, 3) := by decide +kernel
theorem dL_law_1190 : decode cL_law 1190 = .ok (.iconst 0, 1) := by decide +kernel
theorem dL_law_1191 : decode cL_law 1191 = .ok (.ireturn, 1) := by decide +kernel
theorem dL_law_1192 : decode cL_law 1192 = .ok (.aload_n 1, 1) := by decide +kernel
theorem dL_law_1193 : decode cL_law 1193 = .ok (.invokevirtual 150, 3) := by decide +kernel
theorem dL_law_1196 : decode cL_law 1196 = .ok (.aload_n 2, 1) := by decide +kernel
theorem dL_law_1197 : decode cL_law 1197 = .ok (.invokevirtual 153, 3) := by decide +kernel
theorem dL_law_1200 : decode cL_law 1200 = .ok (.if_icmp .eq 87, 3) := by decide +kernel
theorem dL_law_1203 : decode cL_law 1203 = .ok (.iconst 0, 1) := by decide +kernel
theorem dL_law_1204 : decode cL_law 1204 = .ok (.ireturn, 1) := by decide +kernel
theorem dL_law_1205 : decode cL_law 1205 = .ok (.aload_n 1, 1) := by decide +kernel
theorem dL_law_1206 : decode cL_law 1206 = .ok (.aload_n 0, 1) := by decide +kernel
theorem dL_law_1207 : decode cL_law 1207 = .ok (.iload_n 3, 1) := by decide +kernel
theorem dL_law_1208 : decode cL_law 1208 = .ok (.iconst 1, 1) := by decide +kernel
theorem dL_law_1209 : decode cL_law 1209 = .ok (.iadd, 1) := by decide +kernel
theorem dL_law_1210 : decode cL_law 1210 = .ok (.iaload, 1) := by decide +kernel
theorem dL_law_1211 : decode cL_law 1211 = .ok (.invokevirtual 154, 3) := by decide +kernel
theorem dL_law_1214 : decode cL_law 1214 = .ok (.aload_n 2, 1) := by decide +kernel
theorem dL_law_1215 : decode cL_law 1215 = .ok (.aload_n 0, 1) := by decide +kernel
theorem dL_law_1216 : decode cL_law 1216 = .ok (.iload_n 3, 1) := by decide +kernel
theorem dL_law_1217 : decode cL_law 1217 = .ok (.iconst 1, 1) := by decide +kernel
theorem dL_law_1218 : decode cL_law 1218 = .ok (.iadd, 1) := by decide +kernel
theorem dL_law_1219 : decode cL_law 1219 = .ok (.iaload, 1) := by decide +kernel
theorem dL_law_1220 : decode cL_law 1220 = .ok (.invokevirtual 157, 3) := by decide +kernel
theorem dL_law_1223 : decode cL_law 1223 = .ok (.if_icmp .eq 64, 3) := by decide +kernel
theorem dL_law_1226 : decode cL_law 1226 = .ok (.iconst 0, 1) := by decide +kernel
theorem dL_law_1227 : decode cL_law 1227 = .ok (.ireturn, 1) := by decide +kernel
theorem dL_law_1228 : decode cL_law 1228 = .ok (.aload_n 1, 1) := by decide +kernel
theorem dL_law_1229 : decode cL_law 1229 = .ok (.invokevirtual 158, 3) := by decide +kernel
theorem dL_law_1232 : decode cL_law 1232 = .ok (.aload_n 2, 1) := by decide +kernel
theorem dL_law_1233 : decode cL_law 1233 = .ok (.invokevirtual 161, 3) := by decide +kernel
theorem dL_law_1236 : decode cL_law 1236 = .ok (.if_icmp .eq 51, 3) := by decide +kernel
theorem dL_law_1239 : decode cL_law 1239 = .ok (.iconst 0, 1) := by decide +kernel
theorem dL_law_1240 : decode cL_law 1240 = .ok (.ireturn, 1) := by decide +kernel
theorem dL_law_1241 : decode cL_law 1241 = .ok (.aload_n 1, 1) := by decide +kernel
theorem dL_law_1242 : decode cL_law 1242 = .ok (.aload_n 0, 1) := by decide +kernel
theorem dL_law_1243 : decode cL_law 1243 = .ok (.iload_n 3, 1) := by decide +kernel
theorem dL_law_1244 : decode cL_law 1244 = .ok (.iconst 1, 1) := by decide +kernel
theorem dL_law_1245 : decode cL_law 1245 = .ok (.iadd, 1) := by decide +kernel
theorem dL_law_1246 : decode cL_law 1246 = .ok (.iaload, 1) := by decide +kernel
theorem dL_law_1247 : decode cL_law 1247 = .ok (.invokevirtual 162, 3) := by decide +kernel
theorem dL_law_1250 : decode cL_law 1250 = .ok (.aload_n 2, 1) := by decide +kernel
theorem dL_law_1251 : decode cL_law 1251 = .ok (.aload_n 0, 1) := by decide +kernel
theorem dL_law_1252 : decode cL_law 1252 = .ok (.iload_n 3, 1) := by decide +kernel
theorem dL_law_1253 : decode cL_law 1253 = .ok (.iconst 1, 1) := by decide +kernel
theorem dL_law_1254 : decode cL_law 1254 = .ok (.iadd, 1) := by decide +kernel
theorem dL_law_1255 : decode cL_law 1255 = .ok (.iaload, 1) := by decide +kernel
theorem dL_law_1256 : decode cL_law 1256 = .ok (.invokevirtual 165, 3) := by decide +kernel
theorem dL_law_1259 : decode cL_law 1259 = .ok (.if_icmp .eq 28, 3) := by decide +kernel
theorem dL_law_1262 : decode cL_law 1262 = .ok (.iconst 0, 1) := by decide +kernel
theorem dL_law_1263 : decode cL_law 1263 = .ok (.ireturn, 1) := by decide +kernel
theorem dL_law_1264 : decode cL_law 1264 = .ok (.aload_n 1, 1) := by decide +kernel
theorem dL_law_1265 : decode cL_law 1265 = .ok (.aload_n 0, 1) := by decide +kernel
theorem dL_law_1266 : decode cL_law 1266 = .ok (.iload_n 3, 1) := by decide +kernel
theorem dL_law_1267 : decode cL_law 1267 = .ok (.iconst 1, 1) := by decide +kernel
theorem dL_law_1268 : decode cL_law 1268 = .ok (.iadd, 1) := by decide +kernel
theorem dL_law_1269 : decode cL_law 1269 = .ok (.iaload, 1) := by decide +kernel
theorem dL_law_1270 : decode cL_law 1270 = .ok (.invokevirtual 166, 3) := by decide +kernel
theorem dL_law_1273 : decode cL_law 1273 = .ok (.aload_n 2, 1) := by decide +kernel
theorem dL_law_1274 : decode cL_law 1274 = .ok (.aload_n 0, 1) := by decide +kernel
theorem dL_law_1275 : decode cL_law 1275 = .ok (.iload_n 3, 1) := by decide +kernel
theorem dL_law_1276 : decode cL_law 1276 = .ok (.iconst 1, 1) := by decide +kernel
theorem dL_law_1277 : decode cL_law 1277 = .ok (.iadd, 1) := by decide +kernel
theorem dL_law_1278 : decode cL_law 1278 = .ok (.iaload, 1) := by decide +kernel
theorem dL_law_1279 : decode cL_law 1279 = .ok (.invokevirtual 169, 3) := by decide +kernel
theorem dL_law_1282 : decode cL_law 1282 = .ok (.if_icmp .eq 5, 3) := by decide +kernel
theorem dL_law_1285 : decode cL_law 1285 = .ok (.iconst 0, 1) := by decide +kernel
theorem dL_law_1286 : decode cL_law 1286 = .ok (.ireturn, 1) := by decide +kernel
theorem dL_law_1287 : decode cL_law 1287 = .ok (.iinc 3 6, 3) := by decide +kernel
theorem dL_law_1290 : decode cL_law 1290 = .ok (.goto (-1272), 3) := by decide +kernel
theorem dL_law_1293 : decode cL_law 1293 = .ok (.iconst 1, 1) := by decide +kernel
theorem dL_law_1294 : decode cL_law 1294 = .ok (.ireturn, 1) := by decide +kernel
end
section
/-- the words that stay: those that every method may lean on -/
def om_tbl : List Cond := lw_tbl.filter goodWord
theorem om_in {i : Nat} {w : Cond} (h : lw_tbl[i]? = some w) (g : goodWord w = true) : w ∈ om_tbl := List.mem_filter.mpr ⟨List.mem_of_getElem? h, g⟩
theorem om_good : GoodIn om_tbl om_tbl := fun w h => ⟨h, good_of_word (List.mem_filter.mp h).2⟩
theorem om_sub {w : Cond} (h : w ∈ om_tbl) : w ∈ lw_tbl := (List.mem_filter.mp h).1
set_option maxRecDepth 100000 in
theorem wd_0 : Cond.selects RX8 yX8_refuse yX8_refuse ∈ om_tbl := om_in (i := 0) rfl rfl
set_option maxRecDepth 100000 in
theorem wd_1 : Cond.selects RX2 yX2_readChain yX2_readChain ∈ om_tbl := om_in (i := 1) rfl rfl
set_option maxRecDepth 100000 in
theorem wd_2 : Cond.selects RX2 yX2_readUnit yX2_readUnit ∈ om_tbl := om_in (i := 2) rfl rfl
set_option maxRecDepth 100000 in
theorem wd_3 : Cond.selects RX2 yX2_readNumber yX2_readNumber ∈ om_tbl := om_in (i := 3) rfl rfl
set_option maxRecDepth 100000 in
theorem wd_4 : Cond.selects RX2 yX2_readNot yX2_readNot ∈ om_tbl := om_in (i := 4) rfl rfl
set_option maxRecDepth 100000 in
theorem wd_5 : Cond.selects RX2 yX2_readBracketed yX2_readBracketed ∈ om_tbl := om_in (i := 5) rfl rfl
set_option maxRecDepth 100000 in
theorem wd_6 : Cond.selects RX8 yX8_litNightsAhead yX8_litNightsAhead ∈ om_tbl := om_in (i := 6) rfl rfl
set_option maxRecDepth 100000 in
theorem wd_7 : Cond.selects RX8 yX8_sheetAt yX8_sheetAt ∈ om_tbl := om_in (i := 7) rfl rfl
set_option maxRecDepth 100000 in
theorem wd_8 : Cond.selects RX9 yX9_error yX9_error ∈ om_tbl := om_in (i := 8) rfl rfl
set_option maxRecDepth 100000 in
theorem wd_9 : Cond.selects RX9 yX9_whole yX9_whole ∈ om_tbl := om_in (i := 9) rfl rfl
set_option maxRecDepth 100000 in
theorem wd_10 : Cond.selects RX9 yX9_both yX9_both ∈ om_tbl := om_in (i := 10) rfl rfl
set_option maxRecDepth 100000 in
theorem wd_11 : Cond.selects RX9 yX9_compared yX9_compared ∈ om_tbl := om_in (i := 11) rfl rfl
set_option maxRecDepth 100000 in
theorem wd_12 : Cond.selects RX9 yX9_sum yX9_sum ∈ om_tbl := om_in (i := 12) rfl rfl
set_option maxRecDepth 100000 in
theorem wd_13 : Cond.selects RX9 yX9_product yX9_product ∈ om_tbl := om_in (i := 13) rfl rfl
set_option maxRecDepth 100000 in
theorem wd_14 : Cond.selects RX9 yX9_one yX9_one ∈ om_tbl := om_in (i := 14) rfl rfl
set_option maxRecDepth 100000 in
theorem wd_15 : Cond.selects RX9 yX9_look yX9_look ∈ om_tbl := om_in (i := 15) rfl rfl
set_option maxRecDepth 100000 in
theorem wd_16 : Cond.selects RX9 yX9_isName yX9_isName ∈ om_tbl := om_in (i := 16) rfl rfl
set_option maxRecDepth 100000 in
theorem wd_17 : Cond.selects RX9 yX9_step1 yX9_step1 ∈ om_tbl := om_in (i := 17) rfl rfl
set_option maxRecDepth 100000 in
theorem wd_18 : Cond.selects RX9 yX9_opens yX9_opens ∈ om_tbl := om_in (i := 18) rfl rfl
set_option maxRecDepth 100000 in
theorem wd_19 : Cond.selects RX9 yX9_hasText yX9_hasText ∈ om_tbl := om_in (i := 19) rfl rfl
set_option maxRecDepth 100000 in
theorem wd_20 : Cond.selects RX9 yX9_lays1 yX9_lays1 ∈ om_tbl := om_in (i := 20) rfl rfl
set_option maxRecDepth 100000 in
theorem wd_21 : Cond.selects RX9 yX9_isMemory yX9_isMemory ∈ om_tbl := om_in (i := 21) rfl rfl
set_option maxRecDepth 100000 in
theorem wd_22 : Cond.selects RX9 yX9_its yX9_its ∈ om_tbl := om_in (i := 22) rfl rfl
set_option maxRecDepth 100000 in
theorem wd_23 : Cond.selects RX9 yX9_lightBy yX9_lightBy ∈ om_tbl := om_in (i := 23) rfl rfl
set_option maxRecDepth 100000 in
theorem wd_24 : Cond.selects RX9 yX9_burnsOf yX9_burnsOf ∈ om_tbl := om_in (i := 24) rfl rfl
set_option maxRecDepth 100000 in
theorem wd_25 : Cond.selects RX9 yX9_lightTold yX9_lightTold ∈ om_tbl := om_in (i := 25) rfl rfl
set_option maxRecDepth 100000 in
theorem wd_26 : Cond.selects RX9 yX9_worked yX9_worked ∈ om_tbl := om_in (i := 26) rfl rfl
set_option maxRecDepth 100000 in
theorem wd_27 : Cond.selects RX9 yX9_smokeOf yX9_smokeOf ∈ om_tbl := om_in (i := 27) rfl rfl
set_option maxRecDepth 100000 in
theorem wd_28 : Cond.selects RX9 yX9_change1 yX9_change1 ∈ om_tbl := om_in (i := 28) rfl rfl
set_option maxRecDepth 100000 in
theorem wd_29 : Cond.selects RX9 yX9_wantedTold yX9_wantedTold ∈ om_tbl := om_in (i := 29) rfl rfl
set_option maxRecDepth 100000 in
theorem wd_30 : Cond.selects RX9 yX9_whyNot yX9_whyNot ∈ om_tbl := om_in (i := 30) rfl rfl
set_option maxRecDepth 100000 in
theorem wd_31 : Cond.selects RX9 yX9_goes yX9_goes ∈ om_tbl := om_in (i := 31) rfl rfl
set_option maxRecDepth 100000 in
theorem wd_32 : Cond.selects RX9 yX9_aNight yX9_aNight ∈ om_tbl := om_in (i := 32) rfl rfl
set_option maxRecDepth 100000 in
theorem wd_33 : Cond.selects RX9 yX9_tonightSet yX9_tonightSet ∈ om_tbl := om_in (i := 33) rfl rfl
set_option maxRecDepth 100000 in
theorem wd_34 : Cond.selects RX9 yX9_wanted yX9_wanted ∈ om_tbl := om_in (i := 34) rfl rfl
set_option maxRecDepth 100000 in
theorem wd_35 : Cond.selects RX9 yX9_givesBy yX9_givesBy ∈ om_tbl := om_in (i := 35) rfl rfl
set_option maxRecDepth 100000 in
theorem wd_36 : Cond.selects RX9 yX9_weathers yX9_weathers ∈ om_tbl := om_in (i := 36) rfl rfl
set_option maxRecDepth 100000 in
theorem wd_37 : Cond.selects RX9 yX9_draw yX9_draw ∈ om_tbl := om_in (i := 37) rfl rfl
set_option maxRecDepth 100000 in
theorem wd_38 : Cond.selects RX9 yX9_litNights yX9_litNights ∈ om_tbl := om_in (i := 38) rfl rfl
set_option maxRecDepth 100000 in
theorem wd_39 : Cond.selects RX9 yX9_layDown yX9_layDown ∈ om_tbl := om_in (i := 39) rfl rfl
set_option maxRecDepth 100000 in
theorem wd_40 : Cond.selects RX9 yX9_layBack yX9_layBack ∈ om_tbl := om_in (i := 40) rfl rfl
set_option maxRecDepth 100000 in
theorem wd_41 : Cond.selects RX9 yX9_lacks yX9_lacks ∈ om_tbl := om_in (i := 41) rfl rfl
set_option maxRecDepth 100000 in
theorem wd_42 : Cond.selects RX9 yX9_areLeftSo yX9_areLeftSo ∈ om_tbl := om_in (i := 42) rfl rfl
set_option maxRecDepth 100000 in
theorem wd_43 : Cond.selects RX9 yX9_kindNow yX9_kindNow ∈ om_tbl := om_in (i := 43) rfl rfl
set_option maxRecDepth 100000 in
theorem wd_44 : Cond.selects RX9 yX9_glowsAs yX9_glowsAs ∈ om_tbl := om_in (i := 44) rfl rfl
set_option maxRecDepth 100000 in
theorem wd_45 : Cond.selects RX9 yX9_starts yX9_starts ∈ om_tbl := om_in (i := 45) rfl rfl
set_option maxRecDepth 100000 in
theorem wd_46 : Cond.selects RX9 yX9_turnsAs yX9_turnsAs ∈ om_tbl := om_in (i := 46) rfl rfl
set_option maxRecDepth 100000 in
theorem wd_47 : Cond.selects RX9 yX9_mNow yX9_mNow ∈ om_tbl := om_in (i := 47) rfl rfl
set_option maxRecDepth 100000 in
theorem wd_48 : Cond.selects RX9 yX9_guttersAs yX9_guttersAs ∈ om_tbl := om_in (i := 48) rfl rfl
set_option maxRecDepth 100000 in
theorem wd_49 : Cond.selects RX9 yX9_partsAs yX9_partsAs ∈ om_tbl := om_in (i := 49) rfl rfl
set_option maxRecDepth 100000 in
theorem wd_50 : Cond.initialized RL ∈ om_tbl := om_in (i := 50) rfl rfl
set_option maxRecDepth 100000 in
theorem wd_51 : Cond.initialized RX8 ∈ om_tbl := om_in (i := 51) rfl rfl
set_option maxRecDepth 100000 in
theorem wd_52 : Cond.initialized RX6 ∈ om_tbl := om_in (i := 52) rfl rfl
set_option maxRecDepth 100000 in
theorem wd_53 : Cond.initialized RX5 ∈ om_tbl := om_in (i := 53) rfl rfl
set_option maxRecDepth 100000 in
theorem wd_54 : Cond.initialized RX3 ∈ om_tbl := om_in (i := 54) rfl rfl
set_option maxRecDepth 100000 in
theorem wd_55 : Cond.initialized RX1 ∈ om_tbl := om_in (i := 55) rfl rfl
set_option maxRecDepth 100000 in
theorem wd_56 : Cond.initialized RX0 ∈ om_tbl := om_in (i := 56) rfl rfl
set_option maxRecDepth 100000 in
theorem wd_57 : Cond.initialized RX2 ∈ om_tbl := om_in (i := 57) rfl rfl
set_option maxRecDepth 100000 in
theorem wd_58 : Cond.initialized RX7 ∈ om_tbl := om_in (i := 58) rfl rfl
set_option maxRecDepth 100000 in
theorem wd_59 : Cond.initialized RX4 ∈ om_tbl := om_in (i := 59) rfl rfl
set_option maxRecDepth 100000 in
theorem wd_60 : Cond.initialized RX9 ∈ om_tbl := om_in (i := 60) rfl rfl
set_option maxRecDepth 100000 in
theorem wd_61 : Cond.initialized RJ6 ∈ om_tbl := om_in (i := 61) rfl rfl
set_option maxRecDepth 100000 in
theorem wd_62 : Cond.initialized RJ9 ∈ om_tbl := om_in (i := 62) rfl rfl
set_option maxRecDepth 100000 in
theorem wd_63 : Cond.classLink RL 7 RX8 ∈ om_tbl := om_in (i := 63) rfl rfl
set_option maxRecDepth 100000 in
theorem wd_64 : Cond.instantiable RX8 13 ∈ om_tbl := om_in (i := 64) rfl rfl
set_option maxRecDepth 100000 in
theorem wd_65 : Cond.methodLink RL 9 yX8_init ∈ om_tbl := om_in (i := 65) rfl rfl
set_option maxRecDepth 100000 in
theorem wd_66 : Cond.instanceMethod yX8_init ∈ om_tbl := om_in (i := 66) rfl rfl
set_option maxRecDepth 100000 in
theorem wd_67 : Cond.code yX8_init cX8_init 2 none ∈ om_tbl := om_in (i := 67) rfl rfl
set_option maxRecDepth 100000 in
theorem wd_68 : Cond.methodLink RX8 1 objectInit ∈ om_tbl := om_in (i := 68) rfl rfl
set_option maxRecDepth 100000 in
theorem wd_69 : Cond.instanceMethod objectInit ∈ om_tbl := om_in (i := 69) rfl rfl
set_option maxRecDepth 100000 in
theorem wd_70 : Cond.code objectInit object_method_1_code 1 none ∈ om_tbl := om_in (i := 70) rfl rfl
set_option maxRecDepth 100000 in
theorem wd_71 : Cond.classLink RX8 7 RX6 ∈ om_tbl := om_in (i := 71) rfl rfl
set_option maxRecDepth 100000 in
theorem wd_72 : Cond.instantiable RX6 8 ∈ om_tbl := om_in (i := 72) rfl rfl
set_option maxRecDepth 100000 in
theorem wd_73 : Cond.methodLink RX8 9 yX6_init ∈ om_tbl := om_in (i := 73) rfl rfl
set_option maxRecDepth 100000 in
theorem wd_74 : Cond.instanceMethod yX6_init ∈ om_tbl := om_in (i := 74) rfl rfl
set_option maxRecDepth 100000 in
theorem wd_75 : Cond.code yX6_init cX6_init 2 none ∈ om_tbl := om_in (i := 75) rfl rfl
set_option maxRecDepth 100000 in
theorem wd_76 : Cond.methodLink RX6 3 objectInit ∈ om_tbl := om_in (i := 76) rfl rfl
set_option maxRecDepth 100000 in
theorem wd_77 : Cond.classLink RX6 9 RX1 ∈ om_tbl := om_in (i := 77) rfl rfl
set_option maxRecDepth 100000 in
theorem wn_78 : Cond.arrayOver (FieldType.object "OilMemories$Memory") ∈ lw_tbl := List.mem_of_getElem? (i := 78) rfl
set_option maxRecDepth 100000 in
theorem wd_79 : Cond.classLink RX6 17 RX5 ∈ om_tbl := om_in (i := 79) rfl rfl
set_option maxRecDepth 100000 in
theorem wd_80 : Cond.instantiable RX5 3 ∈ om_tbl := om_in (i := 80) rfl rfl
set_option maxRecDepth 100000 in
theorem wd_81 : Cond.methodLink RX6 19 yX5_init ∈ om_tbl := om_in (i := 81) rfl rfl
set_option maxRecDepth 100000 in
theorem wd_82 : Cond.instanceMethod yX5_init ∈ om_tbl := om_in (i := 82) rfl rfl
set_option maxRecDepth 100000 in
theorem wd_83 : Cond.code yX5_init cX5_init 2 none ∈ om_tbl := om_in (i := 83) rfl rfl
set_option maxRecDepth 100000 in
theorem wd_84 : Cond.methodLink RX5 3 objectInit ∈ om_tbl := om_in (i := 84) rfl rfl
set_option maxRecDepth 100000 in
theorem wd_85 : Cond.classLink RX5 9 RX3 ∈ om_tbl := om_in (i := 85) rfl rfl
set_option maxRecDepth 100000 in
theorem wd_86 : Cond.instantiable RX3 2 ∈ om_tbl := om_in (i := 86) rfl rfl
set_option maxRecDepth 100000 in
theorem wd_87 : Cond.methodLink RX5 11 yX3_init ∈ om_tbl := om_in (i := 87) rfl rfl
set_option maxRecDepth 100000 in
theorem wd_88 : Cond.instanceMethod yX3_init ∈ om_tbl := om_in (i := 88) rfl rfl
set_option maxRecDepth 100000 in
theorem wd_89 : Cond.code yX3_init cX3_init 2 none ∈ om_tbl := om_in (i := 89) rfl rfl
set_option maxRecDepth 100000 in
theorem wd_90 : Cond.methodLink RX3 1 objectInit ∈ om_tbl := om_in (i := 90) rfl rfl
set_option maxRecDepth 100000 in
theorem wd_91 : Cond.fieldLink RX3 13 RX3 "values" "[I" ∈ om_tbl := om_in (i := 91) rfl rfl
set_option maxRecDepth 100000 in
theorem wd_92 : Cond.fieldLink RX3 7 RX3 "filled" "I" ∈ om_tbl := om_in (i := 92) rfl rfl
set_option maxRecDepth 100000 in
theorem wd_93 : Cond.laysFinal RX3 RX3 "values" "[I" ∈ om_tbl := om_in (i := 93) rfl rfl
set_option maxRecDepth 100000 in
theorem wd_95 : Cond.lays RX3 RX3 "filled" "I" ∈ om_tbl := om_in (i := 95) rfl rfl
set_option maxRecDepth 100000 in
theorem wd_98 : Cond.arrayClass FieldType.int ∈ om_tbl := om_in (i := 98) rfl rfl
set_option maxRecDepth 100000 in
theorem wd_99 : Cond.fieldLink RX5 24 RX5 "use" "I" ∈ om_tbl := om_in (i := 99) rfl rfl
set_option maxRecDepth 100000 in
theorem wd_100 : Cond.fieldLink RX5 14 RX5 "codes" "LOilMemories$Row;" ∈ om_tbl := om_in (i := 100) rfl rfl
set_option maxRecDepth 100000 in
theorem wd_101 : Cond.fieldLink RX2 60 RX5 "codes" "LOilMemories$Row;" ∈ om_tbl := om_in (i := 101) rfl rfl
set_option maxRecDepth 100000 in
theorem wd_102 : Cond.fieldLink RX8 160 RX5 "codes" "LOilMemories$Row;" ∈ om_tbl := om_in (i := 102) rfl rfl
set_option maxRecDepth 100000 in
theorem wd_103 : Cond.fieldLink RX5 20 RX5 "stack" "[I" ∈ om_tbl := om_in (i := 103) rfl rfl
set_option maxRecDepth 100000 in
theorem wd_104 : Cond.laysFinal RX5 RX5 "use" "I" ∈ om_tbl := om_in (i := 104) rfl rfl
set_option maxRecDepth 100000 in
theorem wd_106 : Cond.laysFinal RX5 RX5 "codes" "LOilMemories$Row;" ∈ om_tbl := om_in (i := 106) rfl rfl
set_option maxRecDepth 100000 in
theorem wd_108 : Cond.laysFinal RX5 RX5 "stack" "[I" ∈ om_tbl := om_in (i := 108) rfl rfl
set_option maxRecDepth 100000 in
theorem wd_111 : Cond.instantiable RX1 5 ∈ om_tbl := om_in (i := 111) rfl rfl
set_option maxRecDepth 100000 in
theorem wn_112 : Cond.methodLinkNest RX6 45 yX1_init RX8 ∈ lw_tbl := List.mem_of_getElem? (i := 112) rfl
set_option maxRecDepth 100000 in
theorem wd_113 : Cond.instanceMethod yX1_init ∈ om_tbl := om_in (i := 113) rfl rfl
set_option maxRecDepth 100000 in
theorem wd_114 : Cond.code yX1_init cX1_init 1 none ∈ om_tbl := om_in (i := 114) rfl rfl
set_option maxRecDepth 100000 in
theorem wd_115 : Cond.methodLink RX1 3 objectInit ∈ om_tbl := om_in (i := 115) rfl rfl
set_option maxRecDepth 100000 in
theorem wd_116 : Cond.fieldLink RX1 9 RX1 "kind" "I" ∈ om_tbl := om_in (i := 116) rfl rfl
set_option maxRecDepth 100000 in
theorem wd_117 : Cond.fieldLink RX7 37 RX1 "kind" "I" ∈ om_tbl := om_in (i := 117) rfl rfl
set_option maxRecDepth 100000 in
theorem wd_118 : Cond.fieldLink RX8 100 RX1 "kind" "I" ∈ om_tbl := om_in (i := 118) rfl rfl
set_option maxRecDepth 100000 in
theorem wd_119 : Cond.fieldLink RX6 61 RX1 "kind" "I" ∈ om_tbl := om_in (i := 119) rfl rfl
set_option maxRecDepth 100000 in
theorem wd_120 : Cond.fieldLink RX1 15 RX1 "number" "I" ∈ om_tbl := om_in (i := 120) rfl rfl
set_option maxRecDepth 100000 in
theorem wd_121 : Cond.fieldLink RX7 40 RX1 "number" "I" ∈ om_tbl := om_in (i := 121) rfl rfl
set_option maxRecDepth 100000 in
theorem wd_122 : Cond.fieldLink RX8 105 RX1 "number" "I" ∈ om_tbl := om_in (i := 122) rfl rfl
set_option maxRecDepth 100000 in
theorem wd_123 : Cond.fieldLink RX6 64 RX1 "number" "I" ∈ om_tbl := om_in (i := 123) rfl rfl
set_option maxRecDepth 100000 in
theorem wd_124 : Cond.fieldLink RX1 18 RX1 "whose" "I" ∈ om_tbl := om_in (i := 124) rfl rfl
set_option maxRecDepth 100000 in
theorem wd_125 : Cond.fieldLink RX8 108 RX1 "whose" "I" ∈ om_tbl := om_in (i := 125) rfl rfl
set_option maxRecDepth 100000 in
theorem wd_126 : Cond.fieldLink RX6 67 RX1 "whose" "I" ∈ om_tbl := om_in (i := 126) rfl rfl
set_option maxRecDepth 100000 in
theorem wd_127 : Cond.fieldLink RX1 21 RX1 "left" "I" ∈ om_tbl := om_in (i := 127) rfl rfl
set_option maxRecDepth 100000 in
theorem wd_128 : Cond.fieldLink RX0 37 RX1 "left" "I" ∈ om_tbl := om_in (i := 128) rfl rfl
set_option maxRecDepth 100000 in
theorem wd_129 : Cond.fieldLink RX8 111 RX1 "left" "I" ∈ om_tbl := om_in (i := 129) rfl rfl
set_option maxRecDepth 100000 in
theorem wd_130 : Cond.fieldLink RX6 70 RX1 "left" "I" ∈ om_tbl := om_in (i := 130) rfl rfl
set_option maxRecDepth 100000 in
theorem wd_131 : Cond.fieldLink RX1 24 RX1 "dear" "I" ∈ om_tbl := om_in (i := 131) rfl rfl
set_option maxRecDepth 100000 in
theorem wd_132 : Cond.fieldLink RX0 45 RX1 "dear" "I" ∈ om_tbl := om_in (i := 132) rfl rfl
set_option maxRecDepth 100000 in
theorem wd_133 : Cond.fieldLink RX8 114 RX1 "dear" "I" ∈ om_tbl := om_in (i := 133) rfl rfl
set_option maxRecDepth 100000 in
theorem wd_134 : Cond.fieldLink RX6 73 RX1 "dear" "I" ∈ om_tbl := om_in (i := 134) rfl rfl
set_option maxRecDepth 100000 in
theorem wd_135 : Cond.lays RX1 RX1 "kind" "I" ∈ om_tbl := om_in (i := 135) rfl rfl
set_option maxRecDepth 100000 in
theorem wd_137 : Cond.lays RX1 RX1 "number" "I" ∈ om_tbl := om_in (i := 137) rfl rfl
set_option maxRecDepth 100000 in
theorem wd_139 : Cond.lays RX1 RX1 "whose" "I" ∈ om_tbl := om_in (i := 139) rfl rfl
set_option maxRecDepth 100000 in
theorem wd_141 : Cond.lays RX1 RX1 "left" "I" ∈ om_tbl := om_in (i := 141) rfl rfl
set_option maxRecDepth 100000 in
theorem wd_143 : Cond.lays RX1 RX1 "dear" "I" ∈ om_tbl := om_in (i := 143) rfl rfl
set_option maxRecDepth 100000 in
theorem wd_146 : Cond.fieldLink RX6 11 RX6 "memories" "[LOilMemories$Memory;" ∈ om_tbl := om_in (i := 146) rfl rfl
set_option maxRecDepth 100000 in
theorem wd_147 : Cond.fieldLink RX6 22 RX6 "lightText" "LOilMemories$Text;" ∈ om_tbl := om_in (i := 147) rfl rfl
set_option maxRecDepth 100000 in
theorem wd_148 : Cond.fieldLink RX6 26 RX6 "wantedText" "LOilMemories$Text;" ∈ om_tbl := om_in (i := 148) rfl rfl
set_option maxRecDepth 100000 in
theorem wd_149 : Cond.fieldLink RX6 29 RX6 "count" "I" ∈ om_tbl := om_in (i := 149) rfl rfl
set_option maxRecDepth 100000 in
theorem wd_150 : Cond.fieldLink RX0 28 RX6 "count" "I" ∈ om_tbl := om_in (i := 150) rfl rfl
set_option maxRecDepth 100000 in
theorem wd_151 : Cond.fieldLink RX8 202 RX6 "count" "I" ∈ om_tbl := om_in (i := 151) rfl rfl
set_option maxRecDepth 100000 in
theorem wd_152 : Cond.fieldLink RX6 33 RX6 "weather" "I" ∈ om_tbl := om_in (i := 152) rfl rfl
set_option maxRecDepth 100000 in
theorem wd_153 : Cond.fieldLink RX8 121 RX6 "weather" "I" ∈ om_tbl := om_in (i := 153) rfl rfl
set_option maxRecDepth 100000 in
theorem wd_154 : Cond.fieldLink RX6 36 RX6 "night" "I" ∈ om_tbl := om_in (i := 154) rfl rfl
set_option maxRecDepth 100000 in
theorem wd_155 : Cond.fieldLink RX8 167 RX6 "night" "I" ∈ om_tbl := om_in (i := 155) rfl rfl
set_option maxRecDepth 100000 in
theorem wd_156 : Cond.fieldLink RX6 39 RX6 "dark" "I" ∈ om_tbl := om_in (i := 156) rfl rfl
set_option maxRecDepth 100000 in
theorem wd_157 : Cond.fieldLink RX8 266 RX6 "dark" "I" ∈ om_tbl := om_in (i := 157) rfl rfl
set_option maxRecDepth 100000 in
theorem wd_158 : Cond.fieldLink RX6 42 RX6 "z" "I" ∈ om_tbl := om_in (i := 158) rfl rfl
set_option maxRecDepth 100000 in
theorem wd_159 : Cond.fieldLink RX8 177 RX6 "z" "I" ∈ om_tbl := om_in (i := 159) rfl rfl
set_option maxRecDepth 100000 in
theorem wd_160 : Cond.laysFinal RX6 RX6 "memories" "[LOilMemories$Memory;" ∈ om_tbl := om_in (i := 160) rfl rfl
set_option maxRecDepth 100000 in
theorem wd_162 : Cond.laysFinal RX6 RX6 "lightText" "LOilMemories$Text;" ∈ om_tbl := om_in (i := 162) rfl rfl
set_option maxRecDepth 100000 in
theorem wd_164 : Cond.laysFinal RX6 RX6 "wantedText" "LOilMemories$Text;" ∈ om_tbl := om_in (i := 164) rfl rfl
set_option maxRecDepth 100000 in
theorem wd_166 : Cond.lays RX6 RX6 "count" "I" ∈ om_tbl := om_in (i := 166) rfl rfl
set_option maxRecDepth 100000 in
theorem wd_168 : Cond.lays RX6 RX6 "weather" "I" ∈ om_tbl := om_in (i := 168) rfl rfl
set_option maxRecDepth 100000 in
theorem wd_170 : Cond.lays RX6 RX6 "night" "I" ∈ om_tbl := om_in (i := 170) rfl rfl
set_option maxRecDepth 100000 in
theorem wd_172 : Cond.lays RX6 RX6 "dark" "I" ∈ om_tbl := om_in (i := 172) rfl rfl
set_option maxRecDepth 100000 in
theorem wd_174 : Cond.lays RX6 RX6 "z" "I" ∈ om_tbl := om_in (i := 174) rfl rfl
set_option maxRecDepth 100000 in
theorem wd_177 : Cond.classLink RX8 22 RX0 ∈ om_tbl := om_in (i := 177) rfl rfl
set_option maxRecDepth 100000 in
theorem wd_178 : Cond.instantiable RX0 5 ∈ om_tbl := om_in (i := 178) rfl rfl
set_option maxRecDepth 100000 in
theorem wn_179 : Cond.methodLinkNest RX8 24 yX0_init RX8 ∈ lw_tbl := List.mem_of_getElem? (i := 179) rfl
set_option maxRecDepth 100000 in
theorem wd_180 : Cond.instanceMethod yX0_init ∈ om_tbl := om_in (i := 180) rfl rfl
set_option maxRecDepth 100000 in
theorem wd_181 : Cond.code yX0_init cX0_init 1 none ∈ om_tbl := om_in (i := 181) rfl rfl
set_option maxRecDepth 100000 in
theorem wd_182 : Cond.methodLink RX0 3 objectInit ∈ om_tbl := om_in (i := 182) rfl rfl
set_option maxRecDepth 100000 in
theorem wd_183 : Cond.fieldLink RX0 9 RX0 "bits" "[I" ∈ om_tbl := om_in (i := 183) rfl rfl
set_option maxRecDepth 100000 in
theorem wd_184 : Cond.fieldLink RX0 15 RX0 "gives" "[I" ∈ om_tbl := om_in (i := 184) rfl rfl
set_option maxRecDepth 100000 in
theorem wd_185 : Cond.fieldLink RX0 18 RX0 "dears" "[I" ∈ om_tbl := om_in (i := 185) rfl rfl
set_option maxRecDepth 100000 in
theorem wd_186 : Cond.fieldLink RX0 21 RX0 "sets" "I" ∈ om_tbl := om_in (i := 186) rfl rfl
set_option maxRecDepth 100000 in
theorem wd_187 : Cond.fieldLink RX0 25 RX0 "best" "I" ∈ om_tbl := om_in (i := 187) rfl rfl
set_option maxRecDepth 100000 in
theorem wd_188 : Cond.laysFinal RX0 RX0 "bits" "[I" ∈ om_tbl := om_in (i := 188) rfl rfl
set_option maxRecDepth 100000 in
theorem wd_190 : Cond.laysFinal RX0 RX0 "gives" "[I" ∈ om_tbl := om_in (i := 190) rfl rfl
set_option maxRecDepth 100000 in
theorem wd_192 : Cond.laysFinal RX0 RX0 "dears" "[I" ∈ om_tbl := om_in (i := 192) rfl rfl
set_option maxRecDepth 100000 in
theorem wd_194 : Cond.lays RX0 RX0 "sets" "I" ∈ om_tbl := om_in (i := 194) rfl rfl
set_option maxRecDepth 100000 in
theorem wd_196 : Cond.lays RX0 RX0 "best" "I" ∈ om_tbl := om_in (i := 196) rfl rfl
set_option maxRecDepth 100000 in
theorem wd_199 : Cond.classLink RX8 29 RX3 ∈ om_tbl := om_in (i := 199) rfl rfl
set_option maxRecDepth 100000 in
theorem wd_200 : Cond.methodLink RX8 31 yX3_init ∈ om_tbl := om_in (i := 200) rfl rfl
set_option maxRecDepth 100000 in
theorem wd_201 : Cond.classLink RX8 47 RX2 ∈ om_tbl := om_in (i := 201) rfl rfl
set_option maxRecDepth 100000 in
theorem wd_202 : Cond.instantiable RX2 4 ∈ om_tbl := om_in (i := 202) rfl rfl
set_option maxRecDepth 100000 in
theorem wn_203 : Cond.methodLinkNest RX8 49 yX2_init RX8 ∈ lw_tbl := List.mem_of_getElem? (i := 203) rfl
set_option maxRecDepth 100000 in
theorem wd_204 : Cond.instanceMethod yX2_init ∈ om_tbl := om_in (i := 204) rfl rfl
set_option maxRecDepth 100000 in
theorem wd_205 : Cond.code yX2_init cX2_init 1 none ∈ om_tbl := om_in (i := 205) rfl rfl
set_option maxRecDepth 100000 in
theorem wd_206 : Cond.methodLink RX2 3 objectInit ∈ om_tbl := om_in (i := 206) rfl rfl
set_option maxRecDepth 100000 in
theorem wd_207 : Cond.classLink RX2 9 RX5 ∈ om_tbl := om_in (i := 207) rfl rfl
set_option maxRecDepth 100000 in
theorem wd_208 : Cond.methodLink RX2 11 yX5_init ∈ om_tbl := om_in (i := 208) rfl rfl
set_option maxRecDepth 100000 in
theorem wd_209 : Cond.classLink RX2 20 RX3 ∈ om_tbl := om_in (i := 209) rfl rfl
set_option maxRecDepth 100000 in
theorem wd_210 : Cond.methodLink RX2 22 yX3_init ∈ om_tbl := om_in (i := 210) rfl rfl
set_option maxRecDepth 100000 in
theorem wd_211 : Cond.fieldLink RX2 14 RX2 "draft" "LOilMemories$Text;" ∈ om_tbl := om_in (i := 211) rfl rfl
set_option maxRecDepth 100000 in
theorem wd_212 : Cond.fieldLink RX8 150 RX2 "draft" "LOilMemories$Text;" ∈ om_tbl := om_in (i := 212) rfl rfl
set_option maxRecDepth 100000 in
theorem wd_213 : Cond.fieldLink RX2 23 RX2 "bytes" "LOilMemories$Row;" ∈ om_tbl := om_in (i := 213) rfl rfl
set_option maxRecDepth 100000 in
theorem wd_214 : Cond.fieldLink RX2 27 RX2 "use" "I" ∈ om_tbl := om_in (i := 214) rfl rfl
set_option maxRecDepth 100000 in
theorem wd_215 : Cond.fieldLink RX2 31 RX2 "place" "I" ∈ om_tbl := om_in (i := 215) rfl rfl
set_option maxRecDepth 100000 in
theorem wd_216 : Cond.laysFinal RX2 RX2 "draft" "LOilMemories$Text;" ∈ om_tbl := om_in (i := 216) rfl rfl
set_option maxRecDepth 100000 in
theorem wd_218 : Cond.laysFinal RX2 RX2 "bytes" "LOilMemories$Row;" ∈ om_tbl := om_in (i := 218) rfl rfl
set_option maxRecDepth 100000 in
theorem wd_220 : Cond.lays RX2 RX2 "use" "I" ∈ om_tbl := om_in (i := 220) rfl rfl
set_option maxRecDepth 100000 in
theorem wd_222 : Cond.lays RX2 RX2 "place" "I" ∈ om_tbl := om_in (i := 222) rfl rfl
set_option maxRecDepth 100000 in
theorem wd_225 : Cond.classLink RX8 54 RX7 ∈ om_tbl := om_in (i := 225) rfl rfl
set_option maxRecDepth 100000 in
theorem wd_226 : Cond.instantiable RX7 5 ∈ om_tbl := om_in (i := 226) rfl rfl
set_option maxRecDepth 100000 in
theorem wn_227 : Cond.methodLinkNest RX8 56 yX7_init RX8 ∈ lw_tbl := List.mem_of_getElem? (i := 227) rfl
set_option maxRecDepth 100000 in
theorem wd_228 : Cond.instanceMethod yX7_init ∈ om_tbl := om_in (i := 228) rfl rfl
set_option maxRecDepth 100000 in
theorem wd_229 : Cond.code yX7_init cX7_init 1 none ∈ om_tbl := om_in (i := 229) rfl rfl
set_option maxRecDepth 100000 in
theorem wd_230 : Cond.methodLink RX7 3 objectInit ∈ om_tbl := om_in (i := 230) rfl rfl
set_option maxRecDepth 100000 in
theorem wd_231 : Cond.classLink RX7 9 RX3 ∈ om_tbl := om_in (i := 231) rfl rfl
set_option maxRecDepth 100000 in
theorem wd_232 : Cond.methodLink RX7 11 yX3_init ∈ om_tbl := om_in (i := 232) rfl rfl
set_option maxRecDepth 100000 in
theorem wd_233 : Cond.fieldLink RX7 14 RX7 "trace" "LOilMemories$Row;" ∈ om_tbl := om_in (i := 233) rfl rfl
set_option maxRecDepth 100000 in
theorem wd_234 : Cond.fieldLink RX8 235 RX7 "trace" "LOilMemories$Row;" ∈ om_tbl := om_in (i := 234) rfl rfl
set_option maxRecDepth 100000 in
theorem wd_235 : Cond.fieldLink RX7 20 RX7 "kind" "I" ∈ om_tbl := om_in (i := 235) rfl rfl
set_option maxRecDepth 100000 in
theorem wd_236 : Cond.fieldLink RX7 24 RX7 "m" "I" ∈ om_tbl := om_in (i := 236) rfl rfl
set_option maxRecDepth 100000 in
theorem wd_237 : Cond.fieldLink RX7 27 RX7 "k" "I" ∈ om_tbl := om_in (i := 237) rfl rfl
set_option maxRecDepth 100000 in
theorem wd_238 : Cond.fieldLink RX7 30 RX7 "parted" "Z" ∈ om_tbl := om_in (i := 238) rfl rfl
set_option maxRecDepth 100000 in
theorem wd_239 : Cond.fieldLink RX8 231 RX7 "parted" "Z" ∈ om_tbl := om_in (i := 239) rfl rfl
set_option maxRecDepth 100000 in
theorem wd_240 : Cond.laysFinal RX7 RX7 "trace" "LOilMemories$Row;" ∈ om_tbl := om_in (i := 240) rfl rfl
set_option maxRecDepth 100000 in
theorem wd_242 : Cond.lays RX7 RX7 "kind" "I" ∈ om_tbl := om_in (i := 242) rfl rfl
set_option maxRecDepth 100000 in
theorem wd_244 : Cond.lays RX7 RX7 "m" "I" ∈ om_tbl := om_in (i := 244) rfl rfl
set_option maxRecDepth 100000 in
theorem wd_246 : Cond.lays RX7 RX7 "k" "I" ∈ om_tbl := om_in (i := 246) rfl rfl
set_option maxRecDepth 100000 in
theorem wd_248 : Cond.lays RX7 RX7 "parted" "Z" ∈ om_tbl := om_in (i := 248) rfl rfl
set_option maxRecDepth 100000 in
theorem wd_251 : Cond.classLink RX8 61 RX4 ∈ om_tbl := om_in (i := 251) rfl rfl
set_option maxRecDepth 100000 in
theorem wn_252 : Cond.arrayOver (FieldType.object "OilMemories$Sheet") ∈ lw_tbl := List.mem_of_getElem? (i := 252) rfl
set_option maxRecDepth 100000 in
theorem wd_253 : Cond.instantiable RX4 3 ∈ om_tbl := om_in (i := 253) rfl rfl
set_option maxRecDepth 100000 in
theorem wn_254 : Cond.methodLinkNest RX8 75 yX4_init RX8 ∈ lw_tbl := List.mem_of_getElem? (i := 254) rfl
set_option maxRecDepth 100000 in
theorem wd_255 : Cond.instanceMethod yX4_init ∈ om_tbl := om_in (i := 255) rfl rfl
set_option maxRecDepth 100000 in
theorem wd_256 : Cond.code yX4_init cX4_init 1 none ∈ om_tbl := om_in (i := 256) rfl rfl
set_option maxRecDepth 100000 in
theorem wd_257 : Cond.methodLink RX4 3 objectInit ∈ om_tbl := om_in (i := 257) rfl rfl
set_option maxRecDepth 100000 in
theorem wd_258 : Cond.fieldLink RX4 9 RX4 "numbers" "[I" ∈ om_tbl := om_in (i := 258) rfl rfl
set_option maxRecDepth 100000 in
theorem wd_259 : Cond.fieldLink RX4 15 RX4 "bits" "I" ∈ om_tbl := om_in (i := 259) rfl rfl
set_option maxRecDepth 100000 in
theorem wd_260 : Cond.fieldLink RX8 251 RX4 "bits" "I" ∈ om_tbl := om_in (i := 260) rfl rfl
set_option maxRecDepth 100000 in
theorem wd_261 : Cond.fieldLink RX4 19 RX4 "size" "I" ∈ om_tbl := om_in (i := 261) rfl rfl
set_option maxRecDepth 100000 in
theorem wd_262 : Cond.laysFinal RX4 RX4 "numbers" "[I" ∈ om_tbl := om_in (i := 262) rfl rfl
set_option maxRecDepth 100000 in
theorem wd_264 : Cond.lays RX4 RX4 "bits" "I" ∈ om_tbl := om_in (i := 264) rfl rfl
set_option maxRecDepth 100000 in
theorem wd_266 : Cond.lays RX4 RX4 "size" "I" ∈ om_tbl := om_in (i := 266) rfl rfl
set_option maxRecDepth 100000 in
theorem wd_269 : Cond.fieldLink RX8 10 RX8 "tower" "LOilMemories$Tower;" ∈ om_tbl := om_in (i := 269) rfl rfl
set_option maxRecDepth 100000 in
theorem wd_270 : Cond.fieldLink RX8 16 RX8 "keptTower" "LOilMemories$Tower;" ∈ om_tbl := om_in (i := 270) rfl rfl
set_option maxRecDepth 100000 in
theorem wd_271 : Cond.fieldLink RX8 19 RX8 "thought" "LOilMemories$Tower;" ∈ om_tbl := om_in (i := 271) rfl rfl
set_option maxRecDepth 100000 in
theorem wd_272 : Cond.fieldLink RX8 25 RX8 "choice" "LOilMemories$Choice;" ∈ om_tbl := om_in (i := 272) rfl rfl
set_option maxRecDepth 100000 in
theorem wd_273 : Cond.fieldLink RX8 34 RX8 "tape" "LOilMemories$Row;" ∈ om_tbl := om_in (i := 273) rfl rfl
set_option maxRecDepth 100000 in
theorem wd_274 : Cond.fieldLink RX8 38 RX8 "keptTape" "LOilMemories$Row;" ∈ om_tbl := om_in (i := 274) rfl rfl
set_option maxRecDepth 100000 in
theorem wd_275 : Cond.fieldLink RX8 41 RX8 "waiting" "LOilMemories$Row;" ∈ om_tbl := om_in (i := 275) rfl rfl
set_option maxRecDepth 100000 in
theorem wd_276 : Cond.fieldLink RX8 44 RX8 "keptWaiting" "LOilMemories$Row;" ∈ om_tbl := om_in (i := 276) rfl rfl
set_option maxRecDepth 100000 in
theorem wd_277 : Cond.fieldLink RX8 50 RX8 "reader" "LOilMemories$Reader;" ∈ om_tbl := om_in (i := 277) rfl rfl
set_option maxRecDepth 100000 in
theorem wd_278 : Cond.fieldLink RX8 57 RX8 "voices" "LOilMemories$Voices;" ∈ om_tbl := om_in (i := 278) rfl rfl
set_option maxRecDepth 100000 in
theorem wd_279 : Cond.fieldLink RX8 63 RX8 "sheets" "[LOilMemories$Sheet;" ∈ om_tbl := om_in (i := 279) rfl rfl
set_option maxRecDepth 100000 in
theorem wd_280 : Cond.fieldLink RX8 67 RX8 "refusals" "[I" ∈ om_tbl := om_in (i := 280) rfl rfl
set_option maxRecDepth 100000 in
theorem wd_281 : Cond.fieldLink RX8 71 RX8 "images" "I" ∈ om_tbl := om_in (i := 281) rfl rfl
set_option maxRecDepth 100000 in
theorem wd_282 : Cond.laysFinal RX8 RX8 "tower" "LOilMemories$Tower;" ∈ om_tbl := om_in (i := 282) rfl rfl
set_option maxRecDepth 100000 in
theorem wd_284 : Cond.laysFinal RX8 RX8 "keptTower" "LOilMemories$Tower;" ∈ om_tbl := om_in (i := 284) rfl rfl
set_option maxRecDepth 100000 in
theorem wd_286 : Cond.laysFinal RX8 RX8 "thought" "LOilMemories$Tower;" ∈ om_tbl := om_in (i := 286) rfl rfl
set_option maxRecDepth 100000 in
theorem wd_288 : Cond.laysFinal RX8 RX8 "choice" "LOilMemories$Choice;" ∈ om_tbl := om_in (i := 288) rfl rfl
set_option maxRecDepth 100000 in
theorem wd_290 : Cond.laysFinal RX8 RX8 "tape" "LOilMemories$Row;" ∈ om_tbl := om_in (i := 290) rfl rfl
set_option maxRecDepth 100000 in
theorem wd_292 : Cond.laysFinal RX8 RX8 "keptTape" "LOilMemories$Row;" ∈ om_tbl := om_in (i := 292) rfl rfl
set_option maxRecDepth 100000 in
theorem wd_294 : Cond.laysFinal RX8 RX8 "waiting" "LOilMemories$Row;" ∈ om_tbl := om_in (i := 294) rfl rfl
set_option maxRecDepth 100000 in
theorem wd_296 : Cond.laysFinal RX8 RX8 "keptWaiting" "LOilMemories$Row;" ∈ om_tbl := om_in (i := 296) rfl rfl
set_option maxRecDepth 100000 in
theorem wd_298 : Cond.laysFinal RX8 RX8 "reader" "LOilMemories$Reader;" ∈ om_tbl := om_in (i := 298) rfl rfl
set_option maxRecDepth 100000 in
theorem wd_300 : Cond.laysFinal RX8 RX8 "voices" "LOilMemories$Voices;" ∈ om_tbl := om_in (i := 300) rfl rfl
set_option maxRecDepth 100000 in
theorem wd_302 : Cond.laysFinal RX8 RX8 "sheets" "[LOilMemories$Sheet;" ∈ om_tbl := om_in (i := 302) rfl rfl
set_option maxRecDepth 100000 in
theorem wd_304 : Cond.laysFinal RX8 RX8 "refusals" "[I" ∈ om_tbl := om_in (i := 304) rfl rfl
set_option maxRecDepth 100000 in
theorem wd_306 : Cond.lays RX8 RX8 "images" "I" ∈ om_tbl := om_in (i := 306) rfl rfl
set_option maxRecDepth 100000 in
theorem wd_309 : Cond.methodLink RL 13 yX8_memory ∈ om_tbl := om_in (i := 309) rfl rfl
set_option maxRecDepth 100000 in
theorem wd_310 : Cond.instanceMethod yX8_memory ∈ om_tbl := om_in (i := 310) rfl rfl
set_option maxRecDepth 100000 in
theorem wd_311 : Cond.selects RX8 yX8_memory yX8_memory ∈ om_tbl := om_in (i := 311) rfl rfl
set_option maxRecDepth 100000 in
theorem wd_312 : Cond.code yX8_memory cX8_memory 4 (some FieldType.int) ∈ om_tbl := om_in (i := 312) rfl rfl
set_option maxRecDepth 100000 in
theorem wd_313 : Cond.methodLink RX8 76 yX8_isKindAndNumber ∈ om_tbl := om_in (i := 313) rfl rfl
set_option maxRecDepth 100000 in
theorem wd_314 : Cond.static yX8_isKindAndNumber ∈ om_tbl := om_in (i := 314) rfl rfl
set_option maxRecDepth 100000 in
theorem wd_315 : Cond.code yX8_isKindAndNumber cX8_isKindAndNumber 1 (some FieldType.boolean) ∈ om_tbl := om_in (i := 315) rfl rfl
set_option maxRecDepth 100000 in
theorem wd_316 : Cond.methodLink RX8 80 yX8_isWithin ∈ om_tbl := om_in (i := 316) rfl rfl
set_option maxRecDepth 100000 in
theorem wd_317 : Cond.static yX8_isWithin ∈ om_tbl := om_in (i := 317) rfl rfl
set_option maxRecDepth 100000 in
theorem wd_318 : Cond.code yX8_isWithin cX8_isWithin 3 (some FieldType.boolean) ∈ om_tbl := om_in (i := 318) rfl rfl
set_option maxRecDepth 100000 in
theorem wd_319 : Cond.methodLink RX8 84 yX8_refuse ∈ om_tbl := om_in (i := 319) rfl rfl
set_option maxRecDepth 100000 in
theorem wd_321 : Cond.instanceMethod yX8_refuse ∈ om_tbl := om_in (i := 321) rfl rfl
set_option maxRecDepth 100000 in
theorem wd_322 : Cond.code yX8_refuse cX8_refuse 2 (some FieldType.int) ∈ om_tbl := om_in (i := 322) rfl rfl
set_option maxRecDepth 100000 in
theorem wd_323 : Cond.constant RX8 269 (-1000000000) ∈ om_tbl := om_in (i := 323) rfl rfl
set_option maxRecDepth 100000 in
theorem wd_324 : Cond.methodLink RX8 88 yX6_isFull ∈ om_tbl := om_in (i := 324) rfl rfl
set_option maxRecDepth 100000 in
theorem wd_325 : Cond.instanceMethod yX6_isFull ∈ om_tbl := om_in (i := 325) rfl rfl
set_option maxRecDepth 100000 in
theorem wd_326 : Cond.selects RX6 yX6_isFull yX6_isFull ∈ om_tbl := om_in (i := 326) rfl rfl
set_option maxRecDepth 100000 in
theorem wd_327 : Cond.code yX6_isFull cX6_isFull 1 (some FieldType.boolean) ∈ om_tbl := om_in (i := 327) rfl rfl
set_option maxRecDepth 100000 in
theorem wd_328 : Cond.methodLink RX8 92 yX6_add ∈ om_tbl := om_in (i := 328) rfl rfl
set_option maxRecDepth 100000 in
theorem wd_329 : Cond.instanceMethod yX6_add ∈ om_tbl := om_in (i := 329) rfl rfl
set_option maxRecDepth 100000 in
theorem wd_330 : Cond.selects RX6 yX6_add yX6_add ∈ om_tbl := om_in (i := 330) rfl rfl
set_option maxRecDepth 100000 in
theorem wd_331 : Cond.code yX6_add cX6_add 6 (some FieldType.int) ∈ om_tbl := om_in (i := 331) rfl rfl
set_option maxRecDepth 100000 in
theorem wd_332 : Cond.methodLink RX6 53 yX6_isFull ∈ om_tbl := om_in (i := 332) rfl rfl
set_option maxRecDepth 100000 in
theorem wd_333 : Cond.methodLink RX6 57 yX6_at ∈ om_tbl := om_in (i := 333) rfl rfl
set_option maxRecDepth 100000 in
theorem wd_334 : Cond.instanceMethod yX6_at ∈ om_tbl := om_in (i := 334) rfl rfl
set_option maxRecDepth 100000 in
theorem wd_335 : Cond.selects RX6 yX6_at yX6_at ∈ om_tbl := om_in (i := 335) rfl rfl
set_option maxRecDepth 100000 in
theorem wd_336 : Cond.code yX6_at cX6_at 2 (some (FieldType.object "OilMemories$Memory")) ∈ om_tbl := om_in (i := 336) rfl rfl
set_option maxRecDepth 100000 in
theorem wd_337 : Cond.methodLink RL 18 yX8_memoryIs ∈ om_tbl := om_in (i := 337) rfl rfl
set_option maxRecDepth 100000 in
theorem wd_338 : Cond.instanceMethod yX8_memoryIs ∈ om_tbl := om_in (i := 338) rfl rfl
set_option maxRecDepth 100000 in
theorem wd_339 : Cond.selects RX8 yX8_memoryIs yX8_memoryIs ∈ om_tbl := om_in (i := 339) rfl rfl
set_option maxRecDepth 100000 in
theorem wd_340 : Cond.code yX8_memoryIs cX8_memoryIs 4 (some FieldType.int) ∈ om_tbl := om_in (i := 340) rfl rfl
set_option maxRecDepth 100000 in
theorem wd_341 : Cond.methodLink RX8 96 yX6_at ∈ om_tbl := om_in (i := 341) rfl rfl
set_option maxRecDepth 100000 in
theorem wd_342 : Cond.methodLink RX8 117 yX6_light ∈ om_tbl := om_in (i := 342) rfl rfl
set_option maxRecDepth 100000 in
theorem wd_343 : Cond.instanceMethod yX6_light ∈ om_tbl := om_in (i := 343) rfl rfl
set_option maxRecDepth 100000 in
theorem wd_344 : Cond.selects RX6 yX6_light yX6_light ∈ om_tbl := om_in (i := 344) rfl rfl
set_option maxRecDepth 100000 in
theorem wd_345 : Cond.code yX6_light cX6_light 2 (some FieldType.int) ∈ om_tbl := om_in (i := 345) rfl rfl
set_option maxRecDepth 100000 in
theorem wd_346 : Cond.methodLink RX6 76 yX1_burns ∈ om_tbl := om_in (i := 346) rfl rfl
set_option maxRecDepth 100000 in
theorem wd_347 : Cond.instanceMethod yX1_burns ∈ om_tbl := om_in (i := 347) rfl rfl
set_option maxRecDepth 100000 in
theorem wd_348 : Cond.selects RX1 yX1_burns yX1_burns ∈ om_tbl := om_in (i := 348) rfl rfl
set_option maxRecDepth 100000 in
theorem wd_349 : Cond.code yX1_burns cX1_burns 3 (some FieldType.int) ∈ om_tbl := om_in (i := 349) rfl rfl
set_option maxRecDepth 100000 in
theorem wd_350 : Cond.methodLink RX1 31 yJ6_bitCount_0f7a4 ∈ om_tbl := om_in (i := 350) rfl rfl
set_option maxRecDepth 100000 in
theorem wd_351 : Cond.static yJ6_bitCount_0f7a4 ∈ om_tbl := om_in (i := 351) rfl rfl
set_option maxRecDepth 100000 in
theorem wd_352 : Cond.code yJ6_bitCount_0f7a4 cJ6_bitCount_0f7a4 1 (some FieldType.int) ∈ om_tbl := om_in (i := 352) rfl rfl
set_option maxRecDepth 100000 in
theorem wd_353 : Cond.constant RJ6 265 1431655765 ∈ om_tbl := om_in (i := 353) rfl rfl
set_option maxRecDepth 100000 in
theorem wd_354 : Cond.constant RJ6 266 858993459 ∈ om_tbl := om_in (i := 354) rfl rfl
set_option maxRecDepth 100000 in
theorem wd_355 : Cond.constant RJ6 267 252645135 ∈ om_tbl := om_in (i := 355) rfl rfl
set_option maxRecDepth 100000 in
theorem wd_356 : Cond.methodLink RX6 80 yJ6_bitCount_0f7a4 ∈ om_tbl := om_in (i := 356) rfl rfl
set_option maxRecDepth 100000 in
theorem wd_357 : Cond.methodLink RX6 85 yX5_gives ∈ om_tbl := om_in (i := 357) rfl rfl
set_option maxRecDepth 100000 in
theorem wd_358 : Cond.instanceMethod yX5_gives ∈ om_tbl := om_in (i := 358) rfl rfl
set_option maxRecDepth 100000 in
theorem wd_359 : Cond.selects RX5 yX5_gives yX5_gives ∈ om_tbl := om_in (i := 359) rfl rfl
set_option maxRecDepth 100000 in
theorem wd_360 : Cond.code yX5_gives cX5_gives 7 (some FieldType.int) ∈ om_tbl := om_in (i := 360) rfl rfl
set_option maxRecDepth 100000 in
theorem wd_361 : Cond.methodLink RX5 35 yX3_size ∈ om_tbl := om_in (i := 361) rfl rfl
set_option maxRecDepth 100000 in
theorem wd_362 : Cond.instanceMethod yX3_size ∈ om_tbl := om_in (i := 362) rfl rfl
set_option maxRecDepth 100000 in
theorem wd_363 : Cond.selects RX3 yX3_size yX3_size ∈ om_tbl := om_in (i := 363) rfl rfl
set_option maxRecDepth 100000 in
theorem wd_364 : Cond.code yX3_size cX3_size 1 (some FieldType.int) ∈ om_tbl := om_in (i := 364) rfl rfl
set_option maxRecDepth 100000 in
theorem wd_365 : Cond.methodLink RX5 39 yX5_held ∈ om_tbl := om_in (i := 365) rfl rfl
set_option maxRecDepth 100000 in
theorem wd_366 : Cond.instanceMethod yX5_held ∈ om_tbl := om_in (i := 366) rfl rfl
set_option maxRecDepth 100000 in
theorem wd_367 : Cond.selects RX5 yX5_held yX5_held ∈ om_tbl := om_in (i := 367) rfl rfl
set_option maxRecDepth 100000 in
theorem wd_368 : Cond.code yX5_held cX5_held 3 (some FieldType.int) ∈ om_tbl := om_in (i := 368) rfl rfl
set_option maxRecDepth 100000 in
theorem wd_369 : Cond.methodLink RX5 43 yX3_at ∈ om_tbl := om_in (i := 369) rfl rfl
set_option maxRecDepth 100000 in
theorem wd_370 : Cond.instanceMethod yX3_at ∈ om_tbl := om_in (i := 370) rfl rfl
set_option maxRecDepth 100000 in
theorem wd_371 : Cond.selects RX3 yX3_at yX3_at ∈ om_tbl := om_in (i := 371) rfl rfl
set_option maxRecDepth 100000 in
theorem wd_372 : Cond.code yX3_at cX3_at 2 (some FieldType.int) ∈ om_tbl := om_in (i := 372) rfl rfl
set_option maxRecDepth 100000 in
theorem wd_373 : Cond.methodLink RX5 46 yX5_joined ∈ om_tbl := om_in (i := 373) rfl rfl
set_option maxRecDepth 100000 in
theorem wd_374 : Cond.static yX5_joined ∈ om_tbl := om_in (i := 374) rfl rfl
set_option maxRecDepth 100000 in
theorem wd_375 : Cond.code yX5_joined cX5_joined 3 (some FieldType.int) ∈ om_tbl := om_in (i := 375) rfl rfl
set_option maxRecDepth 100000 in
theorem wd_376 : Cond.methodLink RX8 124 yX1_smoke ∈ om_tbl := om_in (i := 376) rfl rfl
set_option maxRecDepth 100000 in
theorem wd_377 : Cond.instanceMethod yX1_smoke ∈ om_tbl := om_in (i := 377) rfl rfl
set_option maxRecDepth 100000 in
theorem wd_378 : Cond.selects RX1 yX1_smoke yX1_smoke ∈ om_tbl := om_in (i := 378) rfl rfl
set_option maxRecDepth 100000 in
theorem wd_379 : Cond.code yX1_smoke cX1_smoke 5 (some FieldType.int) ∈ om_tbl := om_in (i := 379) rfl rfl
set_option maxRecDepth 100000 in
theorem wd_380 : Cond.methodLink RL 23 yX8_become ∈ om_tbl := om_in (i := 380) rfl rfl
set_option maxRecDepth 100000 in
theorem wd_381 : Cond.instanceMethod yX8_become ∈ om_tbl := om_in (i := 381) rfl rfl
set_option maxRecDepth 100000 in
theorem wd_382 : Cond.selects RX8 yX8_become yX8_become ∈ om_tbl := om_in (i := 382) rfl rfl
set_option maxRecDepth 100000 in
theorem wd_383 : Cond.code yX8_become cX8_become 5 (some FieldType.int) ∈ om_tbl := om_in (i := 383) rfl rfl
set_option maxRecDepth 100000 in
theorem wd_384 : Cond.methodLink RL 27 yX8_as ∈ om_tbl := om_in (i := 384) rfl rfl
set_option maxRecDepth 100000 in
theorem wd_385 : Cond.instanceMethod yX8_as ∈ om_tbl := om_in (i := 385) rfl rfl
set_option maxRecDepth 100000 in
theorem wd_386 : Cond.selects RX8 yX8_as yX8_as ∈ om_tbl := om_in (i := 386) rfl rfl
set_option maxRecDepth 100000 in
theorem wd_387 : Cond.code yX8_as cX8_as 4 (some FieldType.int) ∈ om_tbl := om_in (i := 387) rfl rfl
set_option maxRecDepth 100000 in
theorem wd_388 : Cond.methodLink RX8 127 yX1_isOf ∈ om_tbl := om_in (i := 388) rfl rfl
set_option maxRecDepth 100000 in
theorem wd_389 : Cond.instanceMethod yX1_isOf ∈ om_tbl := om_in (i := 389) rfl rfl
set_option maxRecDepth 100000 in
theorem wd_390 : Cond.selects RX1 yX1_isOf yX1_isOf ∈ om_tbl := om_in (i := 390) rfl rfl
set_option maxRecDepth 100000 in
theorem wd_391 : Cond.code yX1_isOf cX1_isOf 4 (some FieldType.boolean) ∈ om_tbl := om_in (i := 391) rfl rfl
set_option maxRecDepth 100000 in
theorem wn_392 : Cond.fieldLinkNest RX1 27 RX8 "KIND_ABOVE" "[I" RX8 ∈ lw_tbl := List.mem_of_getElem? (i := 392) rfl
set_option maxRecDepth 100000 in
theorem wn_393 : Cond.laysStatic RX8 "KIND_ABOVE" "[I" ∈ lw_tbl := List.mem_of_getElem? (i := 393) rfl
set_option maxRecDepth 100000 in
theorem wd_394 : Cond.methodLink RL 31 yX8_fills ∈ om_tbl := om_in (i := 394) rfl rfl
set_option maxRecDepth 100000 in
theorem wd_395 : Cond.instanceMethod yX8_fills ∈ om_tbl := om_in (i := 395) rfl rfl
set_option maxRecDepth 100000 in
theorem wd_396 : Cond.selects RX8 yX8_fills yX8_fills ∈ om_tbl := om_in (i := 396) rfl rfl
set_option maxRecDepth 100000 in
theorem wd_397 : Cond.code yX8_fills cX8_fills 5 (some FieldType.int) ∈ om_tbl := om_in (i := 397) rfl rfl
set_option maxRecDepth 100000 in
theorem wd_398 : Cond.methodLink RL 35 yX8_dear ∈ om_tbl := om_in (i := 398) rfl rfl
set_option maxRecDepth 100000 in
theorem wd_399 : Cond.instanceMethod yX8_dear ∈ om_tbl := om_in (i := 399) rfl rfl
set_option maxRecDepth 100000 in
theorem wd_400 : Cond.selects RX8 yX8_dear yX8_dear ∈ om_tbl := om_in (i := 400) rfl rfl
set_option maxRecDepth 100000 in
theorem wd_401 : Cond.code yX8_dear cX8_dear 5 (some FieldType.int) ∈ om_tbl := om_in (i := 401) rfl rfl
set_option maxRecDepth 100000 in
theorem wd_402 : Cond.methodLink RL 39 yX8_trim ∈ om_tbl := om_in (i := 402) rfl rfl
set_option maxRecDepth 100000 in
theorem wd_403 : Cond.instanceMethod yX8_trim ∈ om_tbl := om_in (i := 403) rfl rfl
set_option maxRecDepth 100000 in
theorem wd_404 : Cond.selects RX8 yX8_trim yX8_trim ∈ om_tbl := om_in (i := 404) rfl rfl
set_option maxRecDepth 100000 in
theorem wd_405 : Cond.code yX8_trim cX8_trim 6 (some FieldType.int) ∈ om_tbl := om_in (i := 405) rfl rfl
set_option maxRecDepth 100000 in
theorem wd_406 : Cond.methodLink RX8 130 yX8_isKeeper ∈ om_tbl := om_in (i := 406) rfl rfl
set_option maxRecDepth 100000 in
theorem wd_407 : Cond.static yX8_isKeeper ∈ om_tbl := om_in (i := 407) rfl rfl
set_option maxRecDepth 100000 in
theorem wd_408 : Cond.code yX8_isKeeper cX8_isKeeper 1 (some FieldType.boolean) ∈ om_tbl := om_in (i := 408) rfl rfl
set_option maxRecDepth 100000 in
theorem wd_409 : Cond.methodLink RL 43 yX8_tells ∈ om_tbl := om_in (i := 409) rfl rfl
set_option maxRecDepth 100000 in
theorem wd_410 : Cond.instanceMethod yX8_tells ∈ om_tbl := om_in (i := 410) rfl rfl
set_option maxRecDepth 100000 in
theorem wd_411 : Cond.selects RX8 yX8_tells yX8_tells ∈ om_tbl := om_in (i := 411) rfl rfl
set_option maxRecDepth 100000 in
theorem wd_412 : Cond.code yX8_tells cX8_tells 6 (some FieldType.int) ∈ om_tbl := om_in (i := 412) rfl rfl
set_option maxRecDepth 100000 in
theorem wd_413 : Cond.methodLink RL 47 yX8_blows ∈ om_tbl := om_in (i := 413) rfl rfl
set_option maxRecDepth 100000 in
theorem wd_414 : Cond.instanceMethod yX8_blows ∈ om_tbl := om_in (i := 414) rfl rfl
set_option maxRecDepth 100000 in
theorem wd_415 : Cond.selects RX8 yX8_blows yX8_blows ∈ om_tbl := om_in (i := 415) rfl rfl
set_option maxRecDepth 100000 in
theorem wd_416 : Cond.code yX8_blows cX8_blows 3 (some FieldType.int) ∈ om_tbl := om_in (i := 416) rfl rfl
set_option maxRecDepth 100000 in
theorem wd_417 : Cond.methodLink RL 54 yX8_feed ∈ om_tbl := om_in (i := 417) rfl rfl
set_option maxRecDepth 100000 in
theorem wd_418 : Cond.instanceMethod yX8_feed ∈ om_tbl := om_in (i := 418) rfl rfl
set_option maxRecDepth 100000 in
theorem wd_419 : Cond.selects RX8 yX8_feed yX8_feed ∈ om_tbl := om_in (i := 419) rfl rfl
set_option maxRecDepth 100000 in
theorem wd_420 : Cond.code yX8_feed cX8_feed 5 (some FieldType.int) ∈ om_tbl := om_in (i := 420) rfl rfl
set_option maxRecDepth 100000 in
theorem wd_421 : Cond.methodLink RX8 133 yX3_size ∈ om_tbl := om_in (i := 421) rfl rfl
set_option maxRecDepth 100000 in
theorem wd_422 : Cond.methodLink RX8 137 yX3_add ∈ om_tbl := om_in (i := 422) rfl rfl
set_option maxRecDepth 100000 in
theorem wd_423 : Cond.instanceMethod yX3_add ∈ om_tbl := om_in (i := 423) rfl rfl
set_option maxRecDepth 100000 in
theorem wd_424 : Cond.selects RX3 yX3_add yX3_add ∈ om_tbl := om_in (i := 424) rfl rfl
set_option maxRecDepth 100000 in
theorem wd_425 : Cond.code yX3_add cX3_add 2 (some FieldType.boolean) ∈ om_tbl := om_in (i := 425) rfl rfl
set_option maxRecDepth 100000 in
theorem wd_426 : Cond.methodLink RL 59 yX8_text ∈ om_tbl := om_in (i := 426) rfl rfl
set_option maxRecDepth 100000 in
theorem wd_427 : Cond.instanceMethod yX8_text ∈ om_tbl := om_in (i := 427) rfl rfl
set_option maxRecDepth 100000 in
theorem wd_428 : Cond.selects RX8 yX8_text yX8_text ∈ om_tbl := om_in (i := 428) rfl rfl
set_option maxRecDepth 100000 in
theorem wd_429 : Cond.code yX8_text cX8_text 4 (some FieldType.int) ∈ om_tbl := om_in (i := 429) rfl rfl
set_option maxRecDepth 100000 in
theorem wd_430 : Cond.methodLink RX8 139 yX6_textOf ∈ om_tbl := om_in (i := 430) rfl rfl
set_option maxRecDepth 100000 in
theorem wd_431 : Cond.instanceMethod yX6_textOf ∈ om_tbl := om_in (i := 431) rfl rfl
set_option maxRecDepth 100000 in
theorem wd_432 : Cond.selects RX6 yX6_textOf yX6_textOf ∈ om_tbl := om_in (i := 432) rfl rfl
set_option maxRecDepth 100000 in
theorem wd_433 : Cond.code yX6_textOf cX6_textOf 2 (some (FieldType.object "OilMemories$Text")) ∈ om_tbl := om_in (i := 433) rfl rfl
set_option maxRecDepth 100000 in
theorem wd_434 : Cond.methodLink RX8 143 yX2_read ∈ om_tbl := om_in (i := 434) rfl rfl
set_option maxRecDepth 100000 in
theorem wd_435 : Cond.instanceMethod yX2_read ∈ om_tbl := om_in (i := 435) rfl rfl
set_option maxRecDepth 100000 in
theorem wd_436 : Cond.selects RX2 yX2_read yX2_read ∈ om_tbl := om_in (i := 436) rfl rfl
set_option maxRecDepth 100000 in
theorem wd_437 : Cond.code yX2_read cX2_read 4 (some FieldType.int) ∈ om_tbl := om_in (i := 437) rfl rfl
set_option maxRecDepth 100000 in
theorem wd_438 : Cond.methodLink RX2 34 yX5_clear ∈ om_tbl := om_in (i := 438) rfl rfl
set_option maxRecDepth 100000 in
theorem wd_439 : Cond.instanceMethod yX5_clear ∈ om_tbl := om_in (i := 439) rfl rfl
set_option maxRecDepth 100000 in
theorem wd_440 : Cond.selects RX5 yX5_clear yX5_clear ∈ om_tbl := om_in (i := 440) rfl rfl
set_option maxRecDepth 100000 in
theorem wd_441 : Cond.code yX5_clear cX5_clear 1 none ∈ om_tbl := om_in (i := 441) rfl rfl
set_option maxRecDepth 100000 in
theorem wd_442 : Cond.methodLink RX5 28 yX3_clear ∈ om_tbl := om_in (i := 442) rfl rfl
set_option maxRecDepth 100000 in
theorem wd_443 : Cond.instanceMethod yX3_clear ∈ om_tbl := om_in (i := 443) rfl rfl
set_option maxRecDepth 100000 in
theorem wd_444 : Cond.selects RX3 yX3_clear yX3_clear ∈ om_tbl := om_in (i := 444) rfl rfl
set_option maxRecDepth 100000 in
theorem wd_445 : Cond.code yX3_clear cX3_clear 1 none ∈ om_tbl := om_in (i := 445) rfl rfl
set_option maxRecDepth 100000 in
theorem wd_446 : Cond.methodLink RX2 37 yX3_copyFrom ∈ om_tbl := om_in (i := 446) rfl rfl
set_option maxRecDepth 100000 in
theorem wd_447 : Cond.instanceMethod yX3_copyFrom ∈ om_tbl := om_in (i := 447) rfl rfl
set_option maxRecDepth 100000 in
theorem wd_448 : Cond.selects RX3 yX3_copyFrom yX3_copyFrom ∈ om_tbl := om_in (i := 448) rfl rfl
set_option maxRecDepth 100000 in
theorem wd_449 : Cond.code yX3_copyFrom cX3_copyFrom 3 none ∈ om_tbl := om_in (i := 449) rfl rfl
set_option maxRecDepth 100000 in
theorem wd_450 : Cond.methodLink RX3 17 yX3_at ∈ om_tbl := om_in (i := 450) rfl rfl
set_option maxRecDepth 100000 in
theorem wd_451 : Cond.methodLink RX3 21 yX3_add ∈ om_tbl := om_in (i := 451) rfl rfl
set_option maxRecDepth 100000 in
theorem wd_452 : Cond.methodLink RX2 41 yX2_readChain ∈ om_tbl := om_in (i := 452) rfl rfl
set_option maxRecDepth 100000 in
theorem wd_454 : Cond.instanceMethod yX2_readChain ∈ om_tbl := om_in (i := 454) rfl rfl
set_option maxRecDepth 100000 in
theorem wd_455 : Cond.code yX2_readChain cX2_readChain 6 (some FieldType.boolean) ∈ om_tbl := om_in (i := 455) rfl rfl
set_option maxRecDepth 100000 in
theorem wd_456 : Cond.methodLink RX2 49 yX2_readUnit ∈ om_tbl := om_in (i := 456) rfl rfl
set_option maxRecDepth 100000 in
theorem wd_458 : Cond.instanceMethod yX2_readUnit ∈ om_tbl := om_in (i := 458) rfl rfl
set_option maxRecDepth 100000 in
theorem wd_459 : Cond.code yX2_readUnit cX2_readUnit 4 (some FieldType.boolean) ∈ om_tbl := om_in (i := 459) rfl rfl
set_option maxRecDepth 100000 in
theorem wd_460 : Cond.methodLink RX2 53 yX2_next ∈ om_tbl := om_in (i := 460) rfl rfl
set_option maxRecDepth 100000 in
theorem wd_461 : Cond.instanceMethod yX2_next ∈ om_tbl := om_in (i := 461) rfl rfl
set_option maxRecDepth 100000 in
theorem wd_462 : Cond.selects RX2 yX2_next yX2_next ∈ om_tbl := om_in (i := 462) rfl rfl
set_option maxRecDepth 100000 in
theorem wd_463 : Cond.code yX2_next cX2_next 1 (some FieldType.int) ∈ om_tbl := om_in (i := 463) rfl rfl
set_option maxRecDepth 100000 in
theorem wd_464 : Cond.methodLink RX2 81 yX3_has ∈ om_tbl := om_in (i := 464) rfl rfl
set_option maxRecDepth 100000 in
theorem wd_465 : Cond.instanceMethod yX3_has ∈ om_tbl := om_in (i := 465) rfl rfl
set_option maxRecDepth 100000 in
theorem wd_466 : Cond.selects RX3 yX3_has yX3_has ∈ om_tbl := om_in (i := 466) rfl rfl
set_option maxRecDepth 100000 in
theorem wd_467 : Cond.code yX3_has cX3_has 2 (some FieldType.boolean) ∈ om_tbl := om_in (i := 467) rfl rfl
set_option maxRecDepth 100000 in
theorem wd_468 : Cond.methodLink RX2 84 yX3_at ∈ om_tbl := om_in (i := 468) rfl rfl
set_option maxRecDepth 100000 in
theorem wd_469 : Cond.methodLink RX2 66 yX2_isDigit ∈ om_tbl := om_in (i := 469) rfl rfl
set_option maxRecDepth 100000 in
theorem wd_470 : Cond.static yX2_isDigit ∈ om_tbl := om_in (i := 470) rfl rfl
set_option maxRecDepth 100000 in
theorem wd_471 : Cond.code yX2_isDigit cX2_isDigit 1 (some FieldType.boolean) ∈ om_tbl := om_in (i := 471) rfl rfl
set_option maxRecDepth 100000 in
theorem wd_472 : Cond.methodLink RX2 69 yX2_readNumber ∈ om_tbl := om_in (i := 472) rfl rfl
set_option maxRecDepth 100000 in
theorem wd_474 : Cond.instanceMethod yX2_readNumber ∈ om_tbl := om_in (i := 474) rfl rfl
set_option maxRecDepth 100000 in
theorem wd_475 : Cond.code yX2_readNumber cX2_readNumber 3 none ∈ om_tbl := om_in (i := 475) rfl rfl
set_option maxRecDepth 100000 in
theorem wd_476 : Cond.methodLink RX2 63 yX3_add ∈ om_tbl := om_in (i := 476) rfl rfl
set_option maxRecDepth 100000 in
theorem wd_477 : Cond.methodLink RX2 72 yX2_nameOf ∈ om_tbl := om_in (i := 477) rfl rfl
set_option maxRecDepth 100000 in
theorem wd_478 : Cond.instanceMethod yX2_nameOf ∈ om_tbl := om_in (i := 478) rfl rfl
set_option maxRecDepth 100000 in
theorem wd_479 : Cond.selects RX2 yX2_nameOf yX2_nameOf ∈ om_tbl := om_in (i := 479) rfl rfl
set_option maxRecDepth 100000 in
theorem wd_480 : Cond.code yX2_nameOf cX2_nameOf 2 (some FieldType.int) ∈ om_tbl := om_in (i := 480) rfl rfl
set_option maxRecDepth 100000 in
theorem wd_481 : Cond.methodLink RX2 75 yX2_readNot ∈ om_tbl := om_in (i := 481) rfl rfl
set_option maxRecDepth 100000 in
theorem wd_483 : Cond.instanceMethod yX2_readNot ∈ om_tbl := om_in (i := 483) rfl rfl
set_option maxRecDepth 100000 in
theorem wd_484 : Cond.code yX2_readNot cX2_readNot 2 (some FieldType.boolean) ∈ om_tbl := om_in (i := 484) rfl rfl
set_option maxRecDepth 100000 in
theorem wd_485 : Cond.methodLink RX2 78 yX2_readBracketed ∈ om_tbl := om_in (i := 485) rfl rfl
set_option maxRecDepth 100000 in
theorem wd_487 : Cond.instanceMethod yX2_readBracketed ∈ om_tbl := om_in (i := 487) rfl rfl
set_option maxRecDepth 100000 in
theorem wd_488 : Cond.code yX2_readBracketed cX2_readBracketed 2 (some FieldType.boolean) ∈ om_tbl := om_in (i := 488) rfl rfl
set_option maxRecDepth 100000 in
theorem wd_489 : Cond.methodLink RX2 56 yX2_levelOf ∈ om_tbl := om_in (i := 489) rfl rfl
set_option maxRecDepth 100000 in
theorem wd_490 : Cond.static yX2_levelOf ∈ om_tbl := om_in (i := 490) rfl rfl
set_option maxRecDepth 100000 in
theorem wd_491 : Cond.code yX2_levelOf cX2_levelOf 1 (some FieldType.int) ∈ om_tbl := om_in (i := 491) rfl rfl
set_option maxRecDepth 100000 in
theorem wd_492 : Cond.methodLink RX2 45 yX3_size ∈ om_tbl := om_in (i := 492) rfl rfl
set_option maxRecDepth 100000 in
theorem wd_493 : Cond.methodLink RX8 147 yX3_clear ∈ om_tbl := om_in (i := 493) rfl rfl
set_option maxRecDepth 100000 in
theorem wd_494 : Cond.methodLink RX8 154 yX5_copyFrom ∈ om_tbl := om_in (i := 494) rfl rfl
set_option maxRecDepth 100000 in
theorem wd_495 : Cond.instanceMethod yX5_copyFrom ∈ om_tbl := om_in (i := 495) rfl rfl
set_option maxRecDepth 100000 in
theorem wd_496 : Cond.selects RX5 yX5_copyFrom yX5_copyFrom ∈ om_tbl := om_in (i := 496) rfl rfl
set_option maxRecDepth 100000 in
theorem wd_497 : Cond.code yX5_copyFrom cX5_copyFrom 2 none ∈ om_tbl := om_in (i := 497) rfl rfl
set_option maxRecDepth 100000 in
theorem wd_498 : Cond.methodLink RX5 31 yX3_copyFrom ∈ om_tbl := om_in (i := 498) rfl rfl
set_option maxRecDepth 100000 in
theorem wd_499 : Cond.methodLink RL 63 yX8_untell ∈ om_tbl := om_in (i := 499) rfl rfl
set_option maxRecDepth 100000 in
theorem wd_500 : Cond.instanceMethod yX8_untell ∈ om_tbl := om_in (i := 500) rfl rfl
set_option maxRecDepth 100000 in
theorem wd_501 : Cond.selects RX8 yX8_untell yX8_untell ∈ om_tbl := om_in (i := 501) rfl rfl
set_option maxRecDepth 100000 in
theorem wd_502 : Cond.code yX8_untell cX8_untell 4 (some FieldType.int) ∈ om_tbl := om_in (i := 502) rfl rfl
set_option maxRecDepth 100000 in
theorem wd_503 : Cond.methodLink RX8 163 yX5_clear ∈ om_tbl := om_in (i := 503) rfl rfl
set_option maxRecDepth 100000 in
theorem wd_504 : Cond.methodLink RL 67 yX8_law ∈ om_tbl := om_in (i := 504) rfl rfl
set_option maxRecDepth 100000 in
theorem wd_505 : Cond.instanceMethod yX8_law ∈ om_tbl := om_in (i := 505) rfl rfl
set_option maxRecDepth 100000 in
theorem wd_506 : Cond.selects RX8 yX8_law yX8_law ∈ om_tbl := om_in (i := 506) rfl rfl
set_option maxRecDepth 100000 in
theorem wd_507 : Cond.code yX8_law cX8_law 6 (some FieldType.int) ∈ om_tbl := om_in (i := 507) rfl rfl
set_option maxRecDepth 100000 in
theorem wd_508 : Cond.methodLink RX8 164 yX5_gives ∈ om_tbl := om_in (i := 508) rfl rfl
set_option maxRecDepth 100000 in
theorem wd_509 : Cond.methodLink RL 72 yX8_nights ∈ om_tbl := om_in (i := 509) rfl rfl
set_option maxRecDepth 100000 in
theorem wd_510 : Cond.instanceMethod yX8_nights ∈ om_tbl := om_in (i := 510) rfl rfl
set_option maxRecDepth 100000 in
theorem wd_511 : Cond.selects RX8 yX8_nights yX8_nights ∈ om_tbl := om_in (i := 511) rfl rfl
set_option maxRecDepth 100000 in
theorem wd_512 : Cond.code yX8_nights cX8_nights 4 (some FieldType.int) ∈ om_tbl := om_in (i := 512) rfl rfl
set_option maxRecDepth 100000 in
theorem wd_513 : Cond.methodLink RX8 170 yX6_passNight ∈ om_tbl := om_in (i := 513) rfl rfl
set_option maxRecDepth 100000 in
theorem wd_514 : Cond.instanceMethod yX6_passNight ∈ om_tbl := om_in (i := 514) rfl rfl
set_option maxRecDepth 100000 in
theorem wd_515 : Cond.selects RX6 yX6_passNight yX6_passNight ∈ om_tbl := om_in (i := 515) rfl rfl
set_option maxRecDepth 100000 in
theorem wd_516 : Cond.code yX6_passNight cX6_passNight 4 (some FieldType.boolean) ∈ om_tbl := om_in (i := 516) rfl rfl
set_option maxRecDepth 100000 in
theorem wd_517 : Cond.methodLink RX6 100 yX0_find ∈ om_tbl := om_in (i := 517) rfl rfl
set_option maxRecDepth 100000 in
theorem wd_518 : Cond.instanceMethod yX0_find ∈ om_tbl := om_in (i := 518) rfl rfl
set_option maxRecDepth 100000 in
theorem wd_519 : Cond.selects RX0 yX0_find yX0_find ∈ om_tbl := om_in (i := 519) rfl rfl
set_option maxRecDepth 100000 in
theorem wd_520 : Cond.code yX0_find cX0_find 5 (some FieldType.boolean) ∈ om_tbl := om_in (i := 520) rfl rfl
set_option maxRecDepth 100000 in
theorem wd_521 : Cond.methodLink RX0 33 yX6_at ∈ om_tbl := om_in (i := 521) rfl rfl
set_option maxRecDepth 100000 in
theorem wd_522 : Cond.methodLink RX0 42 yX6_gives ∈ om_tbl := om_in (i := 522) rfl rfl
set_option maxRecDepth 100000 in
theorem wd_523 : Cond.instanceMethod yX6_gives ∈ om_tbl := om_in (i := 523) rfl rfl
set_option maxRecDepth 100000 in
theorem wd_524 : Cond.selects RX6 yX6_gives yX6_gives ∈ om_tbl := om_in (i := 524) rfl rfl
set_option maxRecDepth 100000 in
theorem wd_525 : Cond.code yX6_gives cX6_gives 2 (some FieldType.int) ∈ om_tbl := om_in (i := 525) rfl rfl
set_option maxRecDepth 100000 in
theorem wd_526 : Cond.methodLink RX6 89 yX6_light ∈ om_tbl := om_in (i := 526) rfl rfl
set_option maxRecDepth 100000 in
theorem wd_527 : Cond.methodLink RX6 93 yX1_smoke ∈ om_tbl := om_in (i := 527) rfl rfl
set_option maxRecDepth 100000 in
theorem wd_528 : Cond.methodLink RX0 48 yX0_joinToEach ∈ om_tbl := om_in (i := 528) rfl rfl
set_option maxRecDepth 100000 in
theorem wd_529 : Cond.instanceMethod yX0_joinToEach ∈ om_tbl := om_in (i := 529) rfl rfl
set_option maxRecDepth 100000 in
theorem wd_530 : Cond.selects RX0 yX0_joinToEach yX0_joinToEach ∈ om_tbl := om_in (i := 530) rfl rfl
set_option maxRecDepth 100000 in
theorem wd_531 : Cond.code yX0_joinToEach cX0_joinToEach 5 none ∈ om_tbl := om_in (i := 531) rfl rfl
set_option maxRecDepth 100000 in
theorem wd_532 : Cond.methodLink RX0 52 yX6_wanted ∈ om_tbl := om_in (i := 532) rfl rfl
set_option maxRecDepth 100000 in
theorem wd_533 : Cond.instanceMethod yX6_wanted ∈ om_tbl := om_in (i := 533) rfl rfl
set_option maxRecDepth 100000 in
theorem wd_534 : Cond.selects RX6 yX6_wanted yX6_wanted ∈ om_tbl := om_in (i := 534) rfl rfl
set_option maxRecDepth 100000 in
theorem wd_535 : Cond.code yX6_wanted cX6_wanted 1 (some FieldType.int) ∈ om_tbl := om_in (i := 535) rfl rfl
set_option maxRecDepth 100000 in
theorem wd_536 : Cond.methodLink RX6 96 yX6_keepersWithOil ∈ om_tbl := om_in (i := 536) rfl rfl
set_option maxRecDepth 100000 in
theorem wd_537 : Cond.instanceMethod yX6_keepersWithOil ∈ om_tbl := om_in (i := 537) rfl rfl
set_option maxRecDepth 100000 in
theorem wd_538 : Cond.selects RX6 yX6_keepersWithOil yX6_keepersWithOil ∈ om_tbl := om_in (i := 538) rfl rfl
set_option maxRecDepth 100000 in
theorem wd_539 : Cond.code yX6_keepersWithOil cX6_keepersWithOil 4 (some FieldType.int) ∈ om_tbl := om_in (i := 539) rfl rfl
set_option maxRecDepth 100000 in
theorem wd_540 : Cond.methodLink RX0 56 yX0_takeLeastDear ∈ om_tbl := om_in (i := 540) rfl rfl
set_option maxRecDepth 100000 in
theorem wd_541 : Cond.instanceMethod yX0_takeLeastDear ∈ om_tbl := om_in (i := 541) rfl rfl
set_option maxRecDepth 100000 in
theorem wd_542 : Cond.selects RX0 yX0_takeLeastDear yX0_takeLeastDear ∈ om_tbl := om_in (i := 542) rfl rfl
set_option maxRecDepth 100000 in
theorem wd_543 : Cond.code yX0_takeLeastDear cX0_takeLeastDear 4 none ∈ om_tbl := om_in (i := 543) rfl rfl
set_option maxRecDepth 100000 in
theorem wd_544 : Cond.methodLink RX6 106 yX0_foundSet ∈ om_tbl := om_in (i := 544) rfl rfl
set_option maxRecDepth 100000 in
theorem wd_545 : Cond.instanceMethod yX0_foundSet ∈ om_tbl := om_in (i := 545) rfl rfl
set_option maxRecDepth 100000 in
theorem wd_546 : Cond.selects RX0 yX0_foundSet yX0_foundSet ∈ om_tbl := om_in (i := 546) rfl rfl
set_option maxRecDepth 100000 in
theorem wd_547 : Cond.code yX0_foundSet cX0_foundSet 1 (some FieldType.int) ∈ om_tbl := om_in (i := 547) rfl rfl
set_option maxRecDepth 100000 in
theorem wd_548 : Cond.methodLink RX6 109 yX6_burn ∈ om_tbl := om_in (i := 548) rfl rfl
set_option maxRecDepth 100000 in
theorem wd_549 : Cond.instanceMethod yX6_burn ∈ om_tbl := om_in (i := 549) rfl rfl
set_option maxRecDepth 100000 in
theorem wd_550 : Cond.selects RX6 yX6_burn yX6_burn ∈ om_tbl := om_in (i := 550) rfl rfl
set_option maxRecDepth 100000 in
theorem wd_551 : Cond.code yX6_burn cX6_burn 4 none ∈ om_tbl := om_in (i := 551) rfl rfl
set_option maxRecDepth 100000 in
theorem wd_552 : Cond.methodLink RX6 112 yJ9_min_7cf53 ∈ om_tbl := om_in (i := 552) rfl rfl
set_option maxRecDepth 100000 in
theorem wd_553 : Cond.static yJ9_min_7cf53 ∈ om_tbl := om_in (i := 553) rfl rfl
set_option maxRecDepth 100000 in
theorem wd_554 : Cond.code yJ9_min_7cf53 cJ9_min_7cf53 2 (some FieldType.int) ∈ om_tbl := om_in (i := 554) rfl rfl
set_option maxRecDepth 100000 in
theorem wd_555 : Cond.methodLink RL 76 yX8_loose ∈ om_tbl := om_in (i := 555) rfl rfl
set_option maxRecDepth 100000 in
theorem wd_556 : Cond.instanceMethod yX8_loose ∈ om_tbl := om_in (i := 556) rfl rfl
set_option maxRecDepth 100000 in
theorem wd_557 : Cond.selects RX8 yX8_loose yX8_loose ∈ om_tbl := om_in (i := 557) rfl rfl
set_option maxRecDepth 100000 in
theorem wd_558 : Cond.code yX8_loose cX8_loose 4 (some FieldType.int) ∈ om_tbl := om_in (i := 558) rfl rfl
set_option maxRecDepth 100000 in
theorem wd_559 : Cond.methodLink RX8 174 yX6_drawTheDay ∈ om_tbl := om_in (i := 559) rfl rfl
set_option maxRecDepth 100000 in
theorem wd_560 : Cond.instanceMethod yX6_drawTheDay ∈ om_tbl := om_in (i := 560) rfl rfl
set_option maxRecDepth 100000 in
theorem wd_561 : Cond.selects RX6 yX6_drawTheDay yX6_drawTheDay ∈ om_tbl := om_in (i := 561) rfl rfl
set_option maxRecDepth 100000 in
theorem wd_562 : Cond.code yX6_drawTheDay cX6_drawTheDay 3 none ∈ om_tbl := om_in (i := 562) rfl rfl
set_option maxRecDepth 100000 in
theorem wd_563 : Cond.methodLink RX6 118 yX6_draw ∈ om_tbl := om_in (i := 563) rfl rfl
set_option maxRecDepth 100000 in
theorem wd_564 : Cond.instanceMethod yX6_draw ∈ om_tbl := om_in (i := 564) rfl rfl
set_option maxRecDepth 100000 in
theorem wd_565 : Cond.selects RX6 yX6_draw yX6_draw ∈ om_tbl := om_in (i := 565) rfl rfl
set_option maxRecDepth 100000 in
theorem wd_566 : Cond.code yX6_draw cX6_draw 1 (some FieldType.int) ∈ om_tbl := om_in (i := 566) rfl rfl
set_option maxRecDepth 100000 in
theorem wd_567 : Cond.constant RX6 121 1103515245 ∈ om_tbl := om_in (i := 567) rfl rfl
set_option maxRecDepth 100000 in
theorem wd_568 : Cond.methodLink RL 80 yX8_seed ∈ om_tbl := om_in (i := 568) rfl rfl
set_option maxRecDepth 100000 in
theorem wd_569 : Cond.instanceMethod yX8_seed ∈ om_tbl := om_in (i := 569) rfl rfl
set_option maxRecDepth 100000 in
theorem wd_570 : Cond.selects RX8 yX8_seed yX8_seed ∈ om_tbl := om_in (i := 570) rfl rfl
set_option maxRecDepth 100000 in
theorem wd_571 : Cond.code yX8_seed cX8_seed 3 (some FieldType.int) ∈ om_tbl := om_in (i := 571) rfl rfl
set_option maxRecDepth 100000 in
theorem wd_572 : Cond.methodLink RL 84 yX8_tonight ∈ om_tbl := om_in (i := 572) rfl rfl
set_option maxRecDepth 100000 in
theorem wd_573 : Cond.instanceMethod yX8_tonight ∈ om_tbl := om_in (i := 573) rfl rfl
set_option maxRecDepth 100000 in
theorem wd_574 : Cond.selects RX8 yX8_tonight yX8_tonight ∈ om_tbl := om_in (i := 574) rfl rfl
set_option maxRecDepth 100000 in
theorem wd_575 : Cond.code yX8_tonight cX8_tonight 2 (some FieldType.int) ∈ om_tbl := om_in (i := 575) rfl rfl
set_option maxRecDepth 100000 in
theorem wd_576 : Cond.methodLink RX8 180 yX6_wanted ∈ om_tbl := om_in (i := 576) rfl rfl
set_option maxRecDepth 100000 in
theorem wd_577 : Cond.methodLink RX8 183 yX0_find ∈ om_tbl := om_in (i := 577) rfl rfl
set_option maxRecDepth 100000 in
theorem wd_578 : Cond.methodLink RX8 187 yX0_foundSet ∈ om_tbl := om_in (i := 578) rfl rfl
set_option maxRecDepth 100000 in
theorem wd_579 : Cond.methodLink RX8 190 yX0_foundDear ∈ om_tbl := om_in (i := 579) rfl rfl
set_option maxRecDepth 100000 in
theorem wd_580 : Cond.instanceMethod yX0_foundDear ∈ om_tbl := om_in (i := 580) rfl rfl
set_option maxRecDepth 100000 in
theorem wd_581 : Cond.selects RX0 yX0_foundDear yX0_foundDear ∈ om_tbl := om_in (i := 581) rfl rfl
set_option maxRecDepth 100000 in
theorem wd_582 : Cond.code yX0_foundDear cX0_foundDear 1 (some FieldType.int) ∈ om_tbl := om_in (i := 582) rfl rfl
set_option maxRecDepth 100000 in
theorem wd_583 : Cond.methodLink RX8 193 yX0_foundGives ∈ om_tbl := om_in (i := 583) rfl rfl
set_option maxRecDepth 100000 in
theorem wd_584 : Cond.instanceMethod yX0_foundGives ∈ om_tbl := om_in (i := 584) rfl rfl
set_option maxRecDepth 100000 in
theorem wd_585 : Cond.selects RX0 yX0_foundGives yX0_foundGives ∈ om_tbl := om_in (i := 585) rfl rfl
set_option maxRecDepth 100000 in
theorem wd_586 : Cond.code yX0_foundGives cX0_foundGives 1 (some FieldType.int) ∈ om_tbl := om_in (i := 586) rfl rfl
set_option maxRecDepth 100000 in
theorem wd_587 : Cond.methodLink RL 88 yX8_lasts ∈ om_tbl := om_in (i := 587) rfl rfl
set_option maxRecDepth 100000 in
theorem wd_588 : Cond.instanceMethod yX8_lasts ∈ om_tbl := om_in (i := 588) rfl rfl
set_option maxRecDepth 100000 in
theorem wd_589 : Cond.selects RX8 yX8_lasts yX8_lasts ∈ om_tbl := om_in (i := 589) rfl rfl
set_option maxRecDepth 100000 in
theorem wd_590 : Cond.code yX8_lasts cX8_lasts 1 (some FieldType.int) ∈ om_tbl := om_in (i := 590) rfl rfl
set_option maxRecDepth 100000 in
theorem wd_591 : Cond.methodLink RX8 196 yX8_litNightsAhead ∈ om_tbl := om_in (i := 591) rfl rfl
set_option maxRecDepth 100000 in
theorem wd_593 : Cond.instanceMethod yX8_litNightsAhead ∈ om_tbl := om_in (i := 593) rfl rfl
set_option maxRecDepth 100000 in
theorem wd_594 : Cond.code yX8_litNightsAhead cX8_litNightsAhead 3 (some FieldType.int) ∈ om_tbl := om_in (i := 594) rfl rfl
set_option maxRecDepth 100000 in
theorem wd_595 : Cond.methodLink RX8 199 yX6_copyFrom ∈ om_tbl := om_in (i := 595) rfl rfl
set_option maxRecDepth 100000 in
theorem wd_596 : Cond.instanceMethod yX6_copyFrom ∈ om_tbl := om_in (i := 596) rfl rfl
set_option maxRecDepth 100000 in
theorem wd_597 : Cond.selects RX6 yX6_copyFrom yX6_copyFrom ∈ om_tbl := om_in (i := 597) rfl rfl
set_option maxRecDepth 100000 in
theorem wd_598 : Cond.code yX6_copyFrom cX6_copyFrom 3 none ∈ om_tbl := om_in (i := 598) rfl rfl
set_option maxRecDepth 100000 in
theorem wd_599 : Cond.methodLink RX6 46 yX1_copyFrom ∈ om_tbl := om_in (i := 599) rfl rfl
set_option maxRecDepth 100000 in
theorem wd_600 : Cond.instanceMethod yX1_copyFrom ∈ om_tbl := om_in (i := 600) rfl rfl
set_option maxRecDepth 100000 in
theorem wd_601 : Cond.selects RX1 yX1_copyFrom yX1_copyFrom ∈ om_tbl := om_in (i := 601) rfl rfl
set_option maxRecDepth 100000 in
theorem wd_602 : Cond.code yX1_copyFrom cX1_copyFrom 2 none ∈ om_tbl := om_in (i := 602) rfl rfl
set_option maxRecDepth 100000 in
theorem wd_603 : Cond.methodLink RX6 50 yX5_copyFrom ∈ om_tbl := om_in (i := 603) rfl rfl
set_option maxRecDepth 100000 in
theorem wd_604 : Cond.methodLink RL 93 yX8_without ∈ om_tbl := om_in (i := 604) rfl rfl
set_option maxRecDepth 100000 in
theorem wd_605 : Cond.instanceMethod yX8_without ∈ om_tbl := om_in (i := 605) rfl rfl
set_option maxRecDepth 100000 in
theorem wd_606 : Cond.selects RX8 yX8_without yX8_without ∈ om_tbl := om_in (i := 606) rfl rfl
set_option maxRecDepth 100000 in
theorem wd_607 : Cond.code yX8_without cX8_without 2 (some FieldType.int) ∈ om_tbl := om_in (i := 607) rfl rfl
set_option maxRecDepth 100000 in
theorem wd_608 : Cond.methodLink RL 97 yX8_then ∈ om_tbl := om_in (i := 608) rfl rfl
set_option maxRecDepth 100000 in
theorem wd_609 : Cond.instanceMethod yX8_then ∈ om_tbl := om_in (i := 609) rfl rfl
set_option maxRecDepth 100000 in
theorem wd_610 : Cond.selects RX8 yX8_then yX8_then ∈ om_tbl := om_in (i := 610) rfl rfl
set_option maxRecDepth 100000 in
theorem wd_611 : Cond.code yX8_then cX8_then 4 (some FieldType.int) ∈ om_tbl := om_in (i := 611) rfl rfl
set_option maxRecDepth 100000 in
theorem wd_612 : Cond.methodLink RL 101 yX8_has ∈ om_tbl := om_in (i := 612) rfl rfl
set_option maxRecDepth 100000 in
theorem wd_613 : Cond.instanceMethod yX8_has ∈ om_tbl := om_in (i := 613) rfl rfl
set_option maxRecDepth 100000 in
theorem wd_614 : Cond.selects RX8 yX8_has yX8_has ∈ om_tbl := om_in (i := 614) rfl rfl
set_option maxRecDepth 100000 in
theorem wd_615 : Cond.code yX8_has cX8_has 6 (some FieldType.int) ∈ om_tbl := om_in (i := 615) rfl rfl
set_option maxRecDepth 100000 in
theorem wd_616 : Cond.methodLink RX8 205 yJ6_bitCount_0f7a4 ∈ om_tbl := om_in (i := 616) rfl rfl
set_option maxRecDepth 100000 in
theorem wd_617 : Cond.methodLink RL 105 yX8_mixes ∈ om_tbl := om_in (i := 617) rfl rfl
set_option maxRecDepth 100000 in
theorem wd_618 : Cond.instanceMethod yX8_mixes ∈ om_tbl := om_in (i := 618) rfl rfl
set_option maxRecDepth 100000 in
theorem wd_619 : Cond.selects RX8 yX8_mixes yX8_mixes ∈ om_tbl := om_in (i := 619) rfl rfl
set_option maxRecDepth 100000 in
theorem wd_620 : Cond.code yX8_mixes cX8_mixes 8 (some FieldType.int) ∈ om_tbl := om_in (i := 620) rfl rfl
set_option maxRecDepth 100000 in
theorem wd_621 : Cond.methodLink RX8 210 yX6_gives ∈ om_tbl := om_in (i := 621) rfl rfl
set_option maxRecDepth 100000 in
theorem wd_622 : Cond.methodLink RL 109 yX8_odds ∈ om_tbl := om_in (i := 622) rfl rfl
set_option maxRecDepth 100000 in
theorem wd_623 : Cond.instanceMethod yX8_odds ∈ om_tbl := om_in (i := 623) rfl rfl
set_option maxRecDepth 100000 in
theorem wd_624 : Cond.selects RX8 yX8_odds yX8_odds ∈ om_tbl := om_in (i := 624) rfl rfl
set_option maxRecDepth 100000 in
theorem wd_625 : Cond.code yX8_odds cX8_odds 4 (some FieldType.int) ∈ om_tbl := om_in (i := 625) rfl rfl
set_option maxRecDepth 100000 in
theorem wd_626 : Cond.methodLink RX8 212 yX8_inLowestTerms ∈ om_tbl := om_in (i := 626) rfl rfl
set_option maxRecDepth 100000 in
theorem wd_627 : Cond.static yX8_inLowestTerms ∈ om_tbl := om_in (i := 627) rfl rfl
set_option maxRecDepth 100000 in
theorem wd_628 : Cond.code yX8_inLowestTerms cX8_inLowestTerms 3 (some FieldType.int) ∈ om_tbl := om_in (i := 628) rfl rfl
set_option maxRecDepth 100000 in
theorem wd_629 : Cond.methodLink RL 113 yX8_fits ∈ om_tbl := om_in (i := 629) rfl rfl
set_option maxRecDepth 100000 in
theorem wd_630 : Cond.instanceMethod yX8_fits ∈ om_tbl := om_in (i := 630) rfl rfl
set_option maxRecDepth 100000 in
theorem wd_631 : Cond.selects RX8 yX8_fits yX8_fits ∈ om_tbl := om_in (i := 631) rfl rfl
set_option maxRecDepth 100000 in
theorem wd_632 : Cond.code yX8_fits cX8_fits 4 (some FieldType.int) ∈ om_tbl := om_in (i := 632) rfl rfl
set_option maxRecDepth 100000 in
theorem wd_633 : Cond.methodLink RX8 216 yX8_sheetAt ∈ om_tbl := om_in (i := 633) rfl rfl
set_option maxRecDepth 100000 in
theorem wd_635 : Cond.instanceMethod yX8_sheetAt ∈ om_tbl := om_in (i := 635) rfl rfl
set_option maxRecDepth 100000 in
theorem wd_636 : Cond.code yX8_sheetAt cX8_sheetAt 2 (some (FieldType.object "OilMemories$Sheet")) ∈ om_tbl := om_in (i := 636) rfl rfl
set_option maxRecDepth 100000 in
theorem wd_637 : Cond.methodLink RX8 220 yX4_isMissing ∈ om_tbl := om_in (i := 637) rfl rfl
set_option maxRecDepth 100000 in
theorem wd_638 : Cond.instanceMethod yX4_isMissing ∈ om_tbl := om_in (i := 638) rfl rfl
set_option maxRecDepth 100000 in
theorem wd_639 : Cond.selects RX4 yX4_isMissing yX4_isMissing ∈ om_tbl := om_in (i := 639) rfl rfl
set_option maxRecDepth 100000 in
theorem wd_640 : Cond.code yX4_isMissing cX4_isMissing 1 (some FieldType.boolean) ∈ om_tbl := om_in (i := 640) rfl rfl
set_option maxRecDepth 100000 in
theorem wd_641 : Cond.methodLink RX8 223 yX8_tellsWhatIsLeft ∈ om_tbl := om_in (i := 641) rfl rfl
set_option maxRecDepth 100000 in
theorem wd_642 : Cond.static yX8_tellsWhatIsLeft ∈ om_tbl := om_in (i := 642) rfl rfl
set_option maxRecDepth 100000 in
theorem wd_643 : Cond.code yX8_tellsWhatIsLeft cX8_tellsWhatIsLeft 4 (some FieldType.boolean) ∈ om_tbl := om_in (i := 643) rfl rfl
set_option maxRecDepth 100000 in
theorem wd_644 : Cond.methodLink RX8 247 yX4_has ∈ om_tbl := om_in (i := 644) rfl rfl
set_option maxRecDepth 100000 in
theorem wd_645 : Cond.instanceMethod yX4_has ∈ om_tbl := om_in (i := 645) rfl rfl
set_option maxRecDepth 100000 in
theorem wd_646 : Cond.selects RX4 yX4_has yX4_has ∈ om_tbl := om_in (i := 646) rfl rfl
set_option maxRecDepth 100000 in
theorem wd_647 : Cond.code yX4_has cX4_has 2 (some FieldType.boolean) ∈ om_tbl := om_in (i := 647) rfl rfl
set_option maxRecDepth 100000 in
theorem wd_648 : Cond.methodLink RX8 262 yX4_at ∈ om_tbl := om_in (i := 648) rfl rfl
set_option maxRecDepth 100000 in
theorem wd_649 : Cond.instanceMethod yX4_at ∈ om_tbl := om_in (i := 649) rfl rfl
set_option maxRecDepth 100000 in
theorem wd_650 : Cond.selects RX4 yX4_at yX4_at ∈ om_tbl := om_in (i := 650) rfl rfl
set_option maxRecDepth 100000 in
theorem wd_651 : Cond.code yX4_at cX4_at 2 (some FieldType.int) ∈ om_tbl := om_in (i := 651) rfl rfl
set_option maxRecDepth 100000 in
theorem wd_652 : Cond.methodLink RX4 22 yX4_has ∈ om_tbl := om_in (i := 652) rfl rfl
set_option maxRecDepth 100000 in
theorem wd_653 : Cond.methodLink RL 117 yX8_voice ∈ om_tbl := om_in (i := 653) rfl rfl
set_option maxRecDepth 100000 in
theorem wd_654 : Cond.instanceMethod yX8_voice ∈ om_tbl := om_in (i := 654) rfl rfl
set_option maxRecDepth 100000 in
theorem wd_655 : Cond.selects RX8 yX8_voice yX8_voice ∈ om_tbl := om_in (i := 655) rfl rfl
set_option maxRecDepth 100000 in
theorem wd_656 : Cond.code yX8_voice cX8_voice 6 (some FieldType.int) ∈ om_tbl := om_in (i := 656) rfl rfl
set_option maxRecDepth 100000 in
theorem wd_657 : Cond.methodLink RX8 227 yX7_speak ∈ om_tbl := om_in (i := 657) rfl rfl
set_option maxRecDepth 100000 in
theorem wd_658 : Cond.instanceMethod yX7_speak ∈ om_tbl := om_in (i := 658) rfl rfl
set_option maxRecDepth 100000 in
theorem wd_659 : Cond.selects RX7 yX7_speak yX7_speak ∈ om_tbl := om_in (i := 659) rfl rfl
set_option maxRecDepth 100000 in
theorem wd_660 : Cond.code yX7_speak cX7_speak 5 (some FieldType.int) ∈ om_tbl := om_in (i := 660) rfl rfl
set_option maxRecDepth 100000 in
theorem wd_661 : Cond.methodLink RX7 34 yX3_clear ∈ om_tbl := om_in (i := 661) rfl rfl
set_option maxRecDepth 100000 in
theorem wd_662 : Cond.methodLink RX7 43 yX7_glow ∈ om_tbl := om_in (i := 662) rfl rfl
set_option maxRecDepth 100000 in
theorem wd_663 : Cond.instanceMethod yX7_glow ∈ om_tbl := om_in (i := 663) rfl rfl
set_option maxRecDepth 100000 in
theorem wd_664 : Cond.selects RX7 yX7_glow yX7_glow ∈ om_tbl := om_in (i := 664) rfl rfl
set_option maxRecDepth 100000 in
theorem wd_665 : Cond.code yX7_glow cX7_glow 2 (some FieldType.int) ∈ om_tbl := om_in (i := 665) rfl rfl
set_option maxRecDepth 100000 in
theorem wd_666 : Cond.methodLink RX7 56 yX3_add ∈ om_tbl := om_in (i := 666) rfl rfl
set_option maxRecDepth 100000 in
theorem wd_667 : Cond.methodLink RX7 47 yX7_turn ∈ om_tbl := om_in (i := 667) rfl rfl
set_option maxRecDepth 100000 in
theorem wd_668 : Cond.instanceMethod yX7_turn ∈ om_tbl := om_in (i := 668) rfl rfl
set_option maxRecDepth 100000 in
theorem wd_669 : Cond.selects RX7 yX7_turn yX7_turn ∈ om_tbl := om_in (i := 669) rfl rfl
set_option maxRecDepth 100000 in
theorem wd_670 : Cond.code yX7_turn cX7_turn 2 (some FieldType.int) ∈ om_tbl := om_in (i := 670) rfl rfl
set_option maxRecDepth 100000 in
theorem wd_671 : Cond.methodLink RX7 60 yX7_turnAsEvening ∈ om_tbl := om_in (i := 671) rfl rfl
set_option maxRecDepth 100000 in
theorem wd_672 : Cond.instanceMethod yX7_turnAsEvening ∈ om_tbl := om_in (i := 672) rfl rfl
set_option maxRecDepth 100000 in
theorem wd_673 : Cond.selects RX7 yX7_turnAsEvening yX7_turnAsEvening ∈ om_tbl := om_in (i := 673) rfl rfl
set_option maxRecDepth 100000 in
theorem wd_674 : Cond.code yX7_turnAsEvening cX7_turnAsEvening 2 (some FieldType.int) ∈ om_tbl := om_in (i := 674) rfl rfl
set_option maxRecDepth 100000 in
theorem wd_675 : Cond.methodLink RX7 50 yX7_gutter ∈ om_tbl := om_in (i := 675) rfl rfl
set_option maxRecDepth 100000 in
theorem wd_676 : Cond.instanceMethod yX7_gutter ∈ om_tbl := om_in (i := 676) rfl rfl
set_option maxRecDepth 100000 in
theorem wd_677 : Cond.selects RX7 yX7_gutter yX7_gutter ∈ om_tbl := om_in (i := 677) rfl rfl
set_option maxRecDepth 100000 in
theorem wd_678 : Cond.code yX7_gutter cX7_gutter 2 (some FieldType.int) ∈ om_tbl := om_in (i := 678) rfl rfl
set_option maxRecDepth 100000 in
theorem wd_679 : Cond.methodLink RX7 63 yX7_gutterAsEvening ∈ om_tbl := om_in (i := 679) rfl rfl
set_option maxRecDepth 100000 in
theorem wd_680 : Cond.instanceMethod yX7_gutterAsEvening ∈ om_tbl := om_in (i := 680) rfl rfl
set_option maxRecDepth 100000 in
theorem wd_681 : Cond.selects RX7 yX7_gutterAsEvening yX7_gutterAsEvening ∈ om_tbl := om_in (i := 681) rfl rfl
set_option maxRecDepth 100000 in
theorem wd_682 : Cond.code yX7_gutterAsEvening cX7_gutterAsEvening 2 (some FieldType.int) ∈ om_tbl := om_in (i := 682) rfl rfl
set_option maxRecDepth 100000 in
theorem wd_683 : Cond.methodLink RX7 53 yX7_part ∈ om_tbl := om_in (i := 683) rfl rfl
set_option maxRecDepth 100000 in
theorem wd_684 : Cond.instanceMethod yX7_part ∈ om_tbl := om_in (i := 684) rfl rfl
set_option maxRecDepth 100000 in
theorem wd_685 : Cond.selects RX7 yX7_part yX7_part ∈ om_tbl := om_in (i := 685) rfl rfl
set_option maxRecDepth 100000 in
theorem wd_686 : Cond.code yX7_part cX7_part 4 (some FieldType.int) ∈ om_tbl := om_in (i := 686) rfl rfl
set_option maxRecDepth 100000 in
theorem wd_687 : Cond.methodLink RL 121 yX8_body ∈ om_tbl := om_in (i := 687) rfl rfl
set_option maxRecDepth 100000 in
theorem wd_688 : Cond.instanceMethod yX8_body ∈ om_tbl := om_in (i := 688) rfl rfl
set_option maxRecDepth 100000 in
theorem wd_689 : Cond.selects RX8 yX8_body yX8_body ∈ om_tbl := om_in (i := 689) rfl rfl
set_option maxRecDepth 100000 in
theorem wd_690 : Cond.code yX8_body cX8_body 2 (some FieldType.int) ∈ om_tbl := om_in (i := 690) rfl rfl
set_option maxRecDepth 100000 in
theorem wd_691 : Cond.methodLink RX8 238 yX3_has ∈ om_tbl := om_in (i := 691) rfl rfl
set_option maxRecDepth 100000 in
theorem wd_692 : Cond.methodLink RX8 241 yX3_at ∈ om_tbl := om_in (i := 692) rfl rfl
set_option maxRecDepth 100000 in
theorem wd_693 : Cond.methodLink RL 125 yX8_sheet ∈ om_tbl := om_in (i := 693) rfl rfl
set_option maxRecDepth 100000 in
theorem wd_694 : Cond.instanceMethod yX8_sheet ∈ om_tbl := om_in (i := 694) rfl rfl
set_option maxRecDepth 100000 in
theorem wd_695 : Cond.selects RX8 yX8_sheet yX8_sheet ∈ om_tbl := om_in (i := 695) rfl rfl
set_option maxRecDepth 100000 in
theorem wd_696 : Cond.code yX8_sheet cX8_sheet 5 (some FieldType.int) ∈ om_tbl := om_in (i := 696) rfl rfl
set_option maxRecDepth 100000 in
theorem wd_697 : Cond.methodLink RX8 243 yX4_remake ∈ om_tbl := om_in (i := 697) rfl rfl
set_option maxRecDepth 100000 in
theorem wd_698 : Cond.instanceMethod yX4_remake ∈ om_tbl := om_in (i := 698) rfl rfl
set_option maxRecDepth 100000 in
theorem wd_699 : Cond.selects RX4 yX4_remake yX4_remake ∈ om_tbl := om_in (i := 699) rfl rfl
set_option maxRecDepth 100000 in
theorem wd_700 : Cond.code yX4_remake cX4_remake 4 none ∈ om_tbl := om_in (i := 700) rfl rfl
set_option maxRecDepth 100000 in
theorem wd_701 : Cond.methodLink RL 129 yX8_put ∈ om_tbl := om_in (i := 701) rfl rfl
set_option maxRecDepth 100000 in
theorem wd_702 : Cond.instanceMethod yX8_put ∈ om_tbl := om_in (i := 702) rfl rfl
set_option maxRecDepth 100000 in
theorem wd_703 : Cond.selects RX8 yX8_put yX8_put ∈ om_tbl := om_in (i := 703) rfl rfl
set_option maxRecDepth 100000 in
theorem wd_704 : Cond.code yX8_put cX8_put 5 (some FieldType.int) ∈ om_tbl := om_in (i := 704) rfl rfl
set_option maxRecDepth 100000 in
theorem wd_705 : Cond.methodLink RX8 248 yX4_write ∈ om_tbl := om_in (i := 705) rfl rfl
set_option maxRecDepth 100000 in
theorem wd_706 : Cond.instanceMethod yX4_write ∈ om_tbl := om_in (i := 706) rfl rfl
set_option maxRecDepth 100000 in
theorem wd_707 : Cond.selects RX4 yX4_write yX4_write ∈ om_tbl := om_in (i := 707) rfl rfl
set_option maxRecDepth 100000 in
theorem wd_708 : Cond.code yX4_write cX4_write 3 none ∈ om_tbl := om_in (i := 708) rfl rfl
set_option maxRecDepth 100000 in
theorem wd_709 : Cond.methodLink RL 133 yX8_move ∈ om_tbl := om_in (i := 709) rfl rfl
set_option maxRecDepth 100000 in
theorem wd_710 : Cond.instanceMethod yX8_move ∈ om_tbl := om_in (i := 710) rfl rfl
set_option maxRecDepth 100000 in
theorem wd_711 : Cond.selects RX8 yX8_move yX8_move ∈ om_tbl := om_in (i := 711) rfl rfl
set_option maxRecDepth 100000 in
theorem wd_712 : Cond.code yX8_move cX8_move 8 (some FieldType.int) ∈ om_tbl := om_in (i := 712) rfl rfl
set_option maxRecDepth 100000 in
theorem wd_713 : Cond.methodLink RX8 254 yX4_hasRun ∈ om_tbl := om_in (i := 713) rfl rfl
set_option maxRecDepth 100000 in
theorem wd_714 : Cond.instanceMethod yX4_hasRun ∈ om_tbl := om_in (i := 714) rfl rfl
set_option maxRecDepth 100000 in
theorem wd_715 : Cond.selects RX4 yX4_hasRun yX4_hasRun ∈ om_tbl := om_in (i := 715) rfl rfl
set_option maxRecDepth 100000 in
theorem wd_716 : Cond.code yX4_hasRun cX4_hasRun 3 (some FieldType.boolean) ∈ om_tbl := om_in (i := 716) rfl rfl
set_option maxRecDepth 100000 in
theorem wd_717 : Cond.methodLink RX8 258 yX4_take ∈ om_tbl := om_in (i := 717) rfl rfl
set_option maxRecDepth 100000 in
theorem wd_718 : Cond.instanceMethod yX4_take ∈ om_tbl := om_in (i := 718) rfl rfl
set_option maxRecDepth 100000 in
theorem wd_719 : Cond.selects RX4 yX4_take yX4_take ∈ om_tbl := om_in (i := 719) rfl rfl
set_option maxRecDepth 100000 in
theorem wd_720 : Cond.code yX4_take cX4_take 7 none ∈ om_tbl := om_in (i := 720) rfl rfl
set_option maxRecDepth 100000 in
theorem wd_721 : Cond.methodLink RX4 26 yX4_at ∈ om_tbl := om_in (i := 721) rfl rfl
set_option maxRecDepth 100000 in
theorem wd_722 : Cond.methodLink RX4 30 yX4_write ∈ om_tbl := om_in (i := 722) rfl rfl
set_option maxRecDepth 100000 in
theorem wd_723 : Cond.methodLink RL 138 yX8_dears ∈ om_tbl := om_in (i := 723) rfl rfl
set_option maxRecDepth 100000 in
theorem wd_724 : Cond.instanceMethod yX8_dears ∈ om_tbl := om_in (i := 724) rfl rfl
set_option maxRecDepth 100000 in
theorem wd_725 : Cond.selects RX8 yX8_dears yX8_dears ∈ om_tbl := om_in (i := 725) rfl rfl
set_option maxRecDepth 100000 in
theorem wd_726 : Cond.code yX8_dears cX8_dears 5 (some FieldType.int) ∈ om_tbl := om_in (i := 726) rfl rfl
set_option maxRecDepth 100000 in
theorem wd_727 : Cond.methodLink RL 142 yX8_judge ∈ om_tbl := om_in (i := 727) rfl rfl
set_option maxRecDepth 100000 in
theorem wd_728 : Cond.instanceMethod yX8_judge ∈ om_tbl := om_in (i := 728) rfl rfl
set_option maxRecDepth 100000 in
theorem wd_729 : Cond.selects RX8 yX8_judge yX8_judge ∈ om_tbl := om_in (i := 729) rfl rfl
set_option maxRecDepth 100000 in
theorem wd_730 : Cond.code yX8_judge cX8_judge 5 (some FieldType.int) ∈ om_tbl := om_in (i := 730) rfl rfl
set_option maxRecDepth 100000 in
theorem wd_731 : Cond.methodLink RL 146 yX8_image ∈ om_tbl := om_in (i := 731) rfl rfl
set_option maxRecDepth 100000 in
theorem wd_732 : Cond.instanceMethod yX8_image ∈ om_tbl := om_in (i := 732) rfl rfl
set_option maxRecDepth 100000 in
theorem wd_733 : Cond.selects RX8 yX8_image yX8_image ∈ om_tbl := om_in (i := 733) rfl rfl
set_option maxRecDepth 100000 in
theorem wd_734 : Cond.code yX8_image cX8_image 1 (some FieldType.int) ∈ om_tbl := om_in (i := 734) rfl rfl
set_option maxRecDepth 100000 in
theorem wd_735 : Cond.methodLink RX8 263 yX3_copyFrom ∈ om_tbl := om_in (i := 735) rfl rfl
set_option maxRecDepth 100000 in
theorem wd_736 : Cond.methodLink RL 150 yX8_restore ∈ om_tbl := om_in (i := 736) rfl rfl
set_option maxRecDepth 100000 in
theorem wd_737 : Cond.instanceMethod yX8_restore ∈ om_tbl := om_in (i := 737) rfl rfl
set_option maxRecDepth 100000 in
theorem wd_738 : Cond.selects RX8 yX8_restore yX8_restore ∈ om_tbl := om_in (i := 738) rfl rfl
set_option maxRecDepth 100000 in
theorem wd_739 : Cond.code yX8_restore cX8_restore 1 (some FieldType.int) ∈ om_tbl := om_in (i := 739) rfl rfl
set_option maxRecDepth 100000 in
theorem wd_740 : Cond.methodLink RL 154 yX8_tell ∈ om_tbl := om_in (i := 740) rfl rfl
set_option maxRecDepth 100000 in
theorem wd_741 : Cond.instanceMethod yX8_tell ∈ om_tbl := om_in (i := 741) rfl rfl
set_option maxRecDepth 100000 in
theorem wd_742 : Cond.selects RX8 yX8_tell yX8_tell ∈ om_tbl := om_in (i := 742) rfl rfl
set_option maxRecDepth 100000 in
theorem wd_743 : Cond.code yX8_tell cX8_tell 2 (some FieldType.int) ∈ om_tbl := om_in (i := 743) rfl rfl
set_option maxRecDepth 100000 in
theorem wd_744 : Cond.methodLink RL 158 yX8_check ∈ om_tbl := om_in (i := 744) rfl rfl
set_option maxRecDepth 100000 in
theorem wd_745 : Cond.instanceMethod yX8_check ∈ om_tbl := om_in (i := 745) rfl rfl
set_option maxRecDepth 100000 in
theorem wd_746 : Cond.selects RX8 yX8_check yX8_check ∈ om_tbl := om_in (i := 746) rfl rfl
set_option maxRecDepth 100000 in
theorem wd_747 : Cond.code yX8_check cX8_check 4 (some FieldType.int) ∈ om_tbl := om_in (i := 747) rfl rfl
set_option maxRecDepth 100000 in
theorem wd_748 : Cond.methodLink RL 162 yX8_count ∈ om_tbl := om_in (i := 748) rfl rfl
set_option maxRecDepth 100000 in
theorem wd_749 : Cond.instanceMethod yX8_count ∈ om_tbl := om_in (i := 749) rfl rfl
set_option maxRecDepth 100000 in
theorem wd_750 : Cond.selects RX8 yX8_count yX8_count ∈ om_tbl := om_in (i := 750) rfl rfl
set_option maxRecDepth 100000 in
theorem wd_751 : Cond.code yX8_count cX8_count 2 (some FieldType.int) ∈ om_tbl := om_in (i := 751) rfl rfl
set_option maxRecDepth 100000 in
theorem wd_752 : Cond.methodLink RL 166 yX8_told ∈ om_tbl := om_in (i := 752) rfl rfl
set_option maxRecDepth 100000 in
theorem wd_753 : Cond.instanceMethod yX8_told ∈ om_tbl := om_in (i := 753) rfl rfl
set_option maxRecDepth 100000 in
theorem wd_754 : Cond.selects RX8 yX8_told yX8_told ∈ om_tbl := om_in (i := 754) rfl rfl
set_option maxRecDepth 100000 in
theorem wd_755 : Cond.code yX8_told cX8_told 2 (some FieldType.int) ∈ om_tbl := om_in (i := 755) rfl rfl
set_option maxRecDepth 100000 in
theorem wd_756 : Cond.classLink RL 10 RX9 ∈ om_tbl := om_in (i := 756) rfl rfl
set_option maxRecDepth 100000 in
theorem wd_757 : Cond.instantiable RX9 23 ∈ om_tbl := om_in (i := 757) rfl rfl
set_option maxRecDepth 100000 in
theorem wd_758 : Cond.methodLink RL 12 yX9_init ∈ om_tbl := om_in (i := 758) rfl rfl
set_option maxRecDepth 100000 in
theorem wd_759 : Cond.instanceMethod yX9_init ∈ om_tbl := om_in (i := 759) rfl rfl
set_option maxRecDepth 100000 in
theorem wd_760 : Cond.code yX9_init cX9_init 1 none ∈ om_tbl := om_in (i := 760) rfl rfl
set_option maxRecDepth 100000 in
theorem wd_761 : Cond.methodLink RX9 1 objectInit ∈ om_tbl := om_in (i := 761) rfl rfl
set_option maxRecDepth 100000 in
theorem wd_762 : Cond.fieldLink RX9 7 RX9 "s" "[I" ∈ om_tbl := om_in (i := 762) rfl rfl
set_option maxRecDepth 100000 in
theorem wd_763 : Cond.fieldLink RX9 13 RX9 "kept" "[I" ∈ om_tbl := om_in (i := 763) rfl rfl
set_option maxRecDepth 100000 in
theorem wd_764 : Cond.fieldLink RX9 16 RX9 "laid" "[I" ∈ om_tbl := om_in (i := 764) rfl rfl
set_option maxRecDepth 100000 in
theorem wd_765 : Cond.fieldLink RX9 249 RX9 "images" "I" ∈ om_tbl := om_in (i := 765) rfl rfl
set_option maxRecDepth 100000 in
theorem wd_766 : Cond.fieldLink RX9 19 RX9 "errors" "[I" ∈ om_tbl := om_in (i := 766) rfl rfl
set_option maxRecDepth 100000 in
theorem wd_767 : Cond.fieldLink RX9 22 RX9 "spared" "I" ∈ om_tbl := om_in (i := 767) rfl rfl
set_option maxRecDepth 100000 in
theorem wd_768 : Cond.fieldLink RX9 67 RX9 "at" "I" ∈ om_tbl := om_in (i := 768) rfl rfl
set_option maxRecDepth 100000 in
theorem wd_769 : Cond.fieldLink RX9 100 RX9 "open" "I" ∈ om_tbl := om_in (i := 769) rfl rfl
set_option maxRecDepth 100000 in
theorem wd_770 : Cond.fieldLink RX9 73 RX9 "steps" "I" ∈ om_tbl := om_in (i := 770) rfl rfl
set_option maxRecDepth 100000 in
theorem wd_771 : Cond.fieldLink RX9 70 RX9 "use" "I" ∈ om_tbl := om_in (i := 771) rfl rfl
set_option maxRecDepth 100000 in
theorem wd_772 : Cond.fieldLink RX9 26 RX9 "step" "[I" ∈ om_tbl := om_in (i := 772) rfl rfl
set_option maxRecDepth 100000 in
theorem wd_773 : Cond.fieldLink RX9 29 RX9 "named" "[I" ∈ om_tbl := om_in (i := 773) rfl rfl
set_option maxRecDepth 100000 in
theorem wd_774 : Cond.fieldLink RX9 32 RX9 "pile" "[I" ∈ om_tbl := om_in (i := 774) rfl rfl
set_option maxRecDepth 100000 in
theorem wd_775 : Cond.fieldLink RX9 35 RX9 "givesAll" "[I" ∈ om_tbl := om_in (i := 775) rfl rfl
set_option maxRecDepth 100000 in
theorem wd_776 : Cond.fieldLink RX9 38 RX9 "dearAll" "[I" ∈ om_tbl := om_in (i := 776) rfl rfl
set_option maxRecDepth 100000 in
theorem wd_777 : Cond.fieldLink RX9 210 RX9 "traced" "I" ∈ om_tbl := om_in (i := 777) rfl rfl
set_option maxRecDepth 100000 in
theorem wd_778 : Cond.fieldLink RX9 41 RX9 "trace" "[I" ∈ om_tbl := om_in (i := 778) rfl rfl
set_option maxRecDepth 100000 in
theorem wd_779 : Cond.fieldLink RX9 213 RX9 "speaks" "I" ∈ om_tbl := om_in (i := 779) rfl rfl
set_option maxRecDepth 100000 in
theorem wd_780 : Cond.fieldLink RX9 235 RX9 "isParted" "Z" ∈ om_tbl := om_in (i := 780) rfl rfl
set_option maxRecDepth 100000 in
theorem wd_781 : Cond.fieldLink RX9 44 RX9 "bits" "[I" ∈ om_tbl := om_in (i := 781) rfl rfl
set_option maxRecDepth 100000 in
theorem wd_782 : Cond.fieldLink RX9 47 RX9 "sizes" "[I" ∈ om_tbl := om_in (i := 782) rfl rfl
set_option maxRecDepth 100000 in
theorem wd_783 : Cond.fieldLink RX9 50 RX9 "number" "[I" ∈ om_tbl := om_in (i := 783) rfl rfl
set_option maxRecDepth 100000 in
theorem wd_784 : Cond.fieldLink RX9 53 RX9 "aside" "[I" ∈ om_tbl := om_in (i := 784) rfl rfl
set_option maxRecDepth 100000 in
theorem wd_785 : Cond.laysFinal RX9 RX9 "s" "[I" ∈ om_tbl := om_in (i := 785) rfl rfl
set_option maxRecDepth 100000 in
theorem wd_787 : Cond.laysFinal RX9 RX9 "kept" "[I" ∈ om_tbl := om_in (i := 787) rfl rfl
set_option maxRecDepth 100000 in
theorem wd_789 : Cond.laysFinal RX9 RX9 "laid" "[I" ∈ om_tbl := om_in (i := 789) rfl rfl
set_option maxRecDepth 100000 in
theorem wd_791 : Cond.lays RX9 RX9 "images" "I" ∈ om_tbl := om_in (i := 791) rfl rfl
set_option maxRecDepth 100000 in
theorem wd_793 : Cond.laysFinal RX9 RX9 "errors" "[I" ∈ om_tbl := om_in (i := 793) rfl rfl
set_option maxRecDepth 100000 in
theorem wd_795 : Cond.lays RX9 RX9 "spared" "I" ∈ om_tbl := om_in (i := 795) rfl rfl
set_option maxRecDepth 100000 in
theorem wd_797 : Cond.lays RX9 RX9 "at" "I" ∈ om_tbl := om_in (i := 797) rfl rfl
set_option maxRecDepth 100000 in
theorem wd_799 : Cond.lays RX9 RX9 "open" "I" ∈ om_tbl := om_in (i := 799) rfl rfl
set_option maxRecDepth 100000 in
theorem wd_801 : Cond.lays RX9 RX9 "steps" "I" ∈ om_tbl := om_in (i := 801) rfl rfl
set_option maxRecDepth 100000 in
theorem wd_803 : Cond.lays RX9 RX9 "use" "I" ∈ om_tbl := om_in (i := 803) rfl rfl
set_option maxRecDepth 100000 in
theorem wd_805 : Cond.laysFinal RX9 RX9 "step" "[I" ∈ om_tbl := om_in (i := 805) rfl rfl
set_option maxRecDepth 100000 in
theorem wd_807 : Cond.laysFinal RX9 RX9 "named" "[I" ∈ om_tbl := om_in (i := 807) rfl rfl
set_option maxRecDepth 100000 in
theorem wd_809 : Cond.laysFinal RX9 RX9 "pile" "[I" ∈ om_tbl := om_in (i := 809) rfl rfl
set_option maxRecDepth 100000 in
theorem wd_811 : Cond.laysFinal RX9 RX9 "givesAll" "[I" ∈ om_tbl := om_in (i := 811) rfl rfl
set_option maxRecDepth 100000 in
theorem wd_813 : Cond.laysFinal RX9 RX9 "dearAll" "[I" ∈ om_tbl := om_in (i := 813) rfl rfl
set_option maxRecDepth 100000 in
theorem wd_815 : Cond.lays RX9 RX9 "traced" "I" ∈ om_tbl := om_in (i := 815) rfl rfl
set_option maxRecDepth 100000 in
theorem wd_817 : Cond.laysFinal RX9 RX9 "trace" "[I" ∈ om_tbl := om_in (i := 817) rfl rfl
set_option maxRecDepth 100000 in
theorem wd_819 : Cond.lays RX9 RX9 "speaks" "I" ∈ om_tbl := om_in (i := 819) rfl rfl
set_option maxRecDepth 100000 in
theorem wd_821 : Cond.lays RX9 RX9 "isParted" "Z" ∈ om_tbl := om_in (i := 821) rfl rfl
set_option maxRecDepth 100000 in
theorem wd_823 : Cond.laysFinal RX9 RX9 "bits" "[I" ∈ om_tbl := om_in (i := 823) rfl rfl
set_option maxRecDepth 100000 in
theorem wd_825 : Cond.laysFinal RX9 RX9 "sizes" "[I" ∈ om_tbl := om_in (i := 825) rfl rfl
set_option maxRecDepth 100000 in
theorem wd_827 : Cond.laysFinal RX9 RX9 "number" "[I" ∈ om_tbl := om_in (i := 827) rfl rfl
set_option maxRecDepth 100000 in
theorem wd_829 : Cond.laysFinal RX9 RX9 "aside" "[I" ∈ om_tbl := om_in (i := 829) rfl rfl
set_option maxRecDepth 100000 in
theorem wd_832 : Cond.methodLink RL 58 yX9_feed ∈ om_tbl := om_in (i := 832) rfl rfl
set_option maxRecDepth 100000 in
theorem wd_833 : Cond.instanceMethod yX9_feed ∈ om_tbl := om_in (i := 833) rfl rfl
set_option maxRecDepth 100000 in
theorem wd_834 : Cond.selects RX9 yX9_feed yX9_feed ∈ om_tbl := om_in (i := 834) rfl rfl
set_option maxRecDepth 100000 in
theorem wd_835 : Cond.code yX9_feed cX9_feed 5 (some FieldType.int) ∈ om_tbl := om_in (i := 835) rfl rfl
set_option maxRecDepth 100000 in
theorem wd_836 : Cond.methodLink RX9 57 yX9_in ∈ om_tbl := om_in (i := 836) rfl rfl
set_option maxRecDepth 100000 in
theorem wd_837 : Cond.static yX9_in ∈ om_tbl := om_in (i := 837) rfl rfl
set_option maxRecDepth 100000 in
theorem wd_838 : Cond.code yX9_in cX9_in 3 (some FieldType.boolean) ∈ om_tbl := om_in (i := 838) rfl rfl
set_option maxRecDepth 100000 in
theorem wd_839 : Cond.methodLink RX9 61 yX9_error ∈ om_tbl := om_in (i := 839) rfl rfl
set_option maxRecDepth 100000 in
theorem wd_841 : Cond.instanceMethod yX9_error ∈ om_tbl := om_in (i := 841) rfl rfl
set_option maxRecDepth 100000 in
theorem wd_842 : Cond.code yX9_error cX9_error 2 (some FieldType.int) ∈ om_tbl := om_in (i := 842) rfl rfl
set_option maxRecDepth 100000 in
theorem wd_843 : Cond.constant RX9 56 (-1000000000) ∈ om_tbl := om_in (i := 843) rfl rfl
set_option maxRecDepth 100000 in
theorem wd_844 : Cond.constantLong RX9 65 255 ∈ om_tbl := om_in (i := 844) rfl rfl
set_option maxRecDepth 100000 in
theorem wd_845 : Cond.methodLink RL 62 yX9_text ∈ om_tbl := om_in (i := 845) rfl rfl
set_option maxRecDepth 100000 in
theorem wd_846 : Cond.instanceMethod yX9_text ∈ om_tbl := om_in (i := 846) rfl rfl
set_option maxRecDepth 100000 in
theorem wd_847 : Cond.selects RX9 yX9_text yX9_text ∈ om_tbl := om_in (i := 847) rfl rfl
set_option maxRecDepth 100000 in
theorem wd_848 : Cond.code yX9_text cX9_text 5 (some FieldType.int) ∈ om_tbl := om_in (i := 848) rfl rfl
set_option maxRecDepth 100000 in
theorem wd_849 : Cond.methodLink RX9 110 yX9_whole ∈ om_tbl := om_in (i := 849) rfl rfl
set_option maxRecDepth 100000 in
theorem wd_851 : Cond.instanceMethod yX9_whole ∈ om_tbl := om_in (i := 851) rfl rfl
set_option maxRecDepth 100000 in
theorem wd_852 : Cond.code yX9_whole cX9_whole 1 (some FieldType.boolean) ∈ om_tbl := om_in (i := 852) rfl rfl
set_option maxRecDepth 100000 in
theorem wd_853 : Cond.methodLink RX9 76 yX9_both ∈ om_tbl := om_in (i := 853) rfl rfl
set_option maxRecDepth 100000 in
theorem wd_855 : Cond.instanceMethod yX9_both ∈ om_tbl := om_in (i := 855) rfl rfl
set_option maxRecDepth 100000 in
theorem wd_856 : Cond.code yX9_both cX9_both 1 (some FieldType.boolean) ∈ om_tbl := om_in (i := 856) rfl rfl
set_option maxRecDepth 100000 in
theorem wd_857 : Cond.methodLink RX9 88 yX9_compared ∈ om_tbl := om_in (i := 857) rfl rfl
set_option maxRecDepth 100000 in
theorem wd_859 : Cond.instanceMethod yX9_compared ∈ om_tbl := om_in (i := 859) rfl rfl
set_option maxRecDepth 100000 in
theorem wd_860 : Cond.code yX9_compared cX9_compared 2 (some FieldType.boolean) ∈ om_tbl := om_in (i := 860) rfl rfl
set_option maxRecDepth 100000 in
theorem wd_861 : Cond.methodLink RX9 91 yX9_sum ∈ om_tbl := om_in (i := 861) rfl rfl
set_option maxRecDepth 100000 in
theorem wd_863 : Cond.instanceMethod yX9_sum ∈ om_tbl := om_in (i := 863) rfl rfl
set_option maxRecDepth 100000 in
theorem wd_864 : Cond.code yX9_sum cX9_sum 2 (some FieldType.boolean) ∈ om_tbl := om_in (i := 864) rfl rfl
set_option maxRecDepth 100000 in
theorem wd_865 : Cond.methodLink RX9 94 yX9_product ∈ om_tbl := om_in (i := 865) rfl rfl
set_option maxRecDepth 100000 in
theorem wd_867 : Cond.instanceMethod yX9_product ∈ om_tbl := om_in (i := 867) rfl rfl
set_option maxRecDepth 100000 in
theorem wd_868 : Cond.code yX9_product cX9_product 2 (some FieldType.boolean) ∈ om_tbl := om_in (i := 868) rfl rfl
set_option maxRecDepth 100000 in
theorem wd_869 : Cond.methodLink RX9 97 yX9_one ∈ om_tbl := om_in (i := 869) rfl rfl
set_option maxRecDepth 100000 in
theorem wd_871 : Cond.instanceMethod yX9_one ∈ om_tbl := om_in (i := 871) rfl rfl
set_option maxRecDepth 100000 in
theorem wd_872 : Cond.code yX9_one cX9_one 4 (some FieldType.boolean) ∈ om_tbl := om_in (i := 872) rfl rfl
set_option maxRecDepth 100000 in
theorem wd_873 : Cond.methodLink RX9 80 yX9_look ∈ om_tbl := om_in (i := 873) rfl rfl
set_option maxRecDepth 100000 in
theorem wd_875 : Cond.instanceMethod yX9_look ∈ om_tbl := om_in (i := 875) rfl rfl
set_option maxRecDepth 100000 in
theorem wd_876 : Cond.code yX9_look cX9_look 1 (some FieldType.int) ∈ om_tbl := om_in (i := 876) rfl rfl
set_option maxRecDepth 100000 in
theorem wd_877 : Cond.methodLink RX9 103 yX9_isName ∈ om_tbl := om_in (i := 877) rfl rfl
set_option maxRecDepth 100000 in
theorem wd_879 : Cond.instanceMethod yX9_isName ∈ om_tbl := om_in (i := 879) rfl rfl
set_option maxRecDepth 100000 in
theorem wd_880 : Cond.code yX9_isName cX9_isName 2 (some FieldType.boolean) ∈ om_tbl := om_in (i := 880) rfl rfl
set_option maxRecDepth 100000 in
theorem wd_881 : Cond.methodLink RX9 84 yX9_step1 ∈ om_tbl := om_in (i := 881) rfl rfl
set_option maxRecDepth 100000 in
theorem wd_883 : Cond.instanceMethod yX9_step1 ∈ om_tbl := om_in (i := 883) rfl rfl
set_option maxRecDepth 100000 in
theorem wd_884 : Cond.code yX9_step1 cX9_step1 3 none ∈ om_tbl := om_in (i := 884) rfl rfl
set_option maxRecDepth 100000 in
theorem wd_885 : Cond.methodLink RX9 107 yX9_opens ∈ om_tbl := om_in (i := 885) rfl rfl
set_option maxRecDepth 100000 in
theorem wd_887 : Cond.instanceMethod yX9_opens ∈ om_tbl := om_in (i := 887) rfl rfl
set_option maxRecDepth 100000 in
theorem wd_888 : Cond.code yX9_opens cX9_opens 1 (some FieldType.boolean) ∈ om_tbl := om_in (i := 888) rfl rfl
set_option maxRecDepth 100000 in
theorem wd_889 : Cond.methodLink RL 66 yX9_untell ∈ om_tbl := om_in (i := 889) rfl rfl
set_option maxRecDepth 100000 in
theorem wd_890 : Cond.instanceMethod yX9_untell ∈ om_tbl := om_in (i := 890) rfl rfl
set_option maxRecDepth 100000 in
theorem wd_891 : Cond.selects RX9 yX9_untell yX9_untell ∈ om_tbl := om_in (i := 891) rfl rfl
set_option maxRecDepth 100000 in
theorem wd_892 : Cond.code yX9_untell cX9_untell 3 (some FieldType.int) ∈ om_tbl := om_in (i := 892) rfl rfl
set_option maxRecDepth 100000 in
theorem wd_893 : Cond.methodLink RX9 113 yX9_hasText ∈ om_tbl := om_in (i := 893) rfl rfl
set_option maxRecDepth 100000 in
theorem wd_895 : Cond.instanceMethod yX9_hasText ∈ om_tbl := om_in (i := 895) rfl rfl
set_option maxRecDepth 100000 in
theorem wd_896 : Cond.code yX9_hasText cX9_hasText 2 (some FieldType.boolean) ∈ om_tbl := om_in (i := 896) rfl rfl
set_option maxRecDepth 100000 in
theorem wd_897 : Cond.methodLink RL 17 yX9_memory ∈ om_tbl := om_in (i := 897) rfl rfl
set_option maxRecDepth 100000 in
theorem wd_898 : Cond.instanceMethod yX9_memory ∈ om_tbl := om_in (i := 898) rfl rfl
set_option maxRecDepth 100000 in
theorem wd_899 : Cond.selects RX9 yX9_memory yX9_memory ∈ om_tbl := om_in (i := 899) rfl rfl
set_option maxRecDepth 100000 in
theorem wd_900 : Cond.code yX9_memory cX9_memory 5 (some FieldType.int) ∈ om_tbl := om_in (i := 900) rfl rfl
set_option maxRecDepth 100000 in
theorem wd_901 : Cond.methodLink RX9 165 yX9_isKind ∈ om_tbl := om_in (i := 901) rfl rfl
set_option maxRecDepth 100000 in
theorem wd_902 : Cond.static yX9_isKind ∈ om_tbl := om_in (i := 902) rfl rfl
set_option maxRecDepth 100000 in
theorem wd_903 : Cond.code yX9_isKind cX9_isKind 1 (some FieldType.boolean) ∈ om_tbl := om_in (i := 903) rfl rfl
set_option maxRecDepth 100000 in
theorem wd_904 : Cond.methodLink RX9 157 yX9_lays1 ∈ om_tbl := om_in (i := 904) rfl rfl
set_option maxRecDepth 100000 in
theorem wd_906 : Cond.instanceMethod yX9_lays1 ∈ om_tbl := om_in (i := 906) rfl rfl
set_option maxRecDepth 100000 in
theorem wd_907 : Cond.code yX9_lays1 cX9_lays1 4 none ∈ om_tbl := om_in (i := 907) rfl rfl
set_option maxRecDepth 100000 in
theorem wd_908 : Cond.methodLink RL 22 yX9_memoryIs ∈ om_tbl := om_in (i := 908) rfl rfl
set_option maxRecDepth 100000 in
theorem wd_909 : Cond.instanceMethod yX9_memoryIs ∈ om_tbl := om_in (i := 909) rfl rfl
set_option maxRecDepth 100000 in
theorem wd_910 : Cond.selects RX9 yX9_memoryIs yX9_memoryIs ∈ om_tbl := om_in (i := 910) rfl rfl
set_option maxRecDepth 100000 in
theorem wd_911 : Cond.code yX9_memoryIs cX9_memoryIs 4 (some FieldType.int) ∈ om_tbl := om_in (i := 911) rfl rfl
set_option maxRecDepth 100000 in
theorem wd_912 : Cond.methodLink RX9 168 yX9_isMemory ∈ om_tbl := om_in (i := 912) rfl rfl
set_option maxRecDepth 100000 in
theorem wd_914 : Cond.instanceMethod yX9_isMemory ∈ om_tbl := om_in (i := 914) rfl rfl
set_option maxRecDepth 100000 in
theorem wd_915 : Cond.code yX9_isMemory cX9_isMemory 2 (some FieldType.boolean) ∈ om_tbl := om_in (i := 915) rfl rfl
set_option maxRecDepth 100000 in
theorem wd_916 : Cond.methodLink RX9 120 yX9_its ∈ om_tbl := om_in (i := 916) rfl rfl
set_option maxRecDepth 100000 in
theorem wd_918 : Cond.instanceMethod yX9_its ∈ om_tbl := om_in (i := 918) rfl rfl
set_option maxRecDepth 100000 in
theorem wd_919 : Cond.code yX9_its cX9_its 3 (some FieldType.int) ∈ om_tbl := om_in (i := 919) rfl rfl
set_option maxRecDepth 100000 in
theorem wd_920 : Cond.methodLink RX9 139 yX9_lightBy ∈ om_tbl := om_in (i := 920) rfl rfl
set_option maxRecDepth 100000 in
theorem wd_922 : Cond.instanceMethod yX9_lightBy ∈ om_tbl := om_in (i := 922) rfl rfl
set_option maxRecDepth 100000 in
theorem wd_923 : Cond.code yX9_lightBy cX9_lightBy 4 (some FieldType.int) ∈ om_tbl := om_in (i := 923) rfl rfl
set_option maxRecDepth 100000 in
theorem wd_924 : Cond.methodLink RX9 130 yX9_manyIn ∈ om_tbl := om_in (i := 924) rfl rfl
set_option maxRecDepth 100000 in
theorem wd_925 : Cond.static yX9_manyIn ∈ om_tbl := om_in (i := 925) rfl rfl
set_option maxRecDepth 100000 in
theorem wd_926 : Cond.code yX9_manyIn cX9_manyIn 3 (some FieldType.int) ∈ om_tbl := om_in (i := 926) rfl rfl
set_option maxRecDepth 100000 in
theorem wd_927 : Cond.methodLink RX9 133 yX9_burnsOf ∈ om_tbl := om_in (i := 927) rfl rfl
set_option maxRecDepth 100000 in
theorem wd_929 : Cond.instanceMethod yX9_burnsOf ∈ om_tbl := om_in (i := 929) rfl rfl
set_option maxRecDepth 100000 in
theorem wd_930 : Cond.code yX9_burnsOf cX9_burnsOf 4 (some FieldType.int) ∈ om_tbl := om_in (i := 930) rfl rfl
set_option maxRecDepth 100000 in
theorem wd_931 : Cond.methodLink RX9 136 yX9_lightTold ∈ om_tbl := om_in (i := 931) rfl rfl
set_option maxRecDepth 100000 in
theorem wd_933 : Cond.instanceMethod yX9_lightTold ∈ om_tbl := om_in (i := 933) rfl rfl
set_option maxRecDepth 100000 in
theorem wd_934 : Cond.code yX9_lightTold cX9_lightTold 4 (some FieldType.int) ∈ om_tbl := om_in (i := 934) rfl rfl
set_option maxRecDepth 100000 in
theorem wd_935 : Cond.methodLink RX9 124 yX9_worked ∈ om_tbl := om_in (i := 935) rfl rfl
set_option maxRecDepth 100000 in
theorem wd_937 : Cond.instanceMethod yX9_worked ∈ om_tbl := om_in (i := 937) rfl rfl
set_option maxRecDepth 100000 in
theorem wd_938 : Cond.code yX9_worked cX9_worked 7 (some FieldType.int) ∈ om_tbl := om_in (i := 938) rfl rfl
set_option maxRecDepth 100000 in
theorem wd_939 : Cond.methodLink RX9 116 yX9_joined ∈ om_tbl := om_in (i := 939) rfl rfl
set_option maxRecDepth 100000 in
theorem wd_940 : Cond.static yX9_joined ∈ om_tbl := om_in (i := 940) rfl rfl
set_option maxRecDepth 100000 in
theorem wd_941 : Cond.code yX9_joined cX9_joined 3 (some FieldType.int) ∈ om_tbl := om_in (i := 941) rfl rfl
set_option maxRecDepth 100000 in
theorem wd_942 : Cond.methodLink RX9 127 yX9_held ∈ om_tbl := om_in (i := 942) rfl rfl
set_option maxRecDepth 100000 in
theorem wd_943 : Cond.static yX9_held ∈ om_tbl := om_in (i := 943) rfl rfl
set_option maxRecDepth 100000 in
theorem wd_944 : Cond.code yX9_held cX9_held 3 (some FieldType.int) ∈ om_tbl := om_in (i := 944) rfl rfl
set_option maxRecDepth 100000 in
theorem wd_945 : Cond.methodLink RX9 142 yX9_smokeOf ∈ om_tbl := om_in (i := 945) rfl rfl
set_option maxRecDepth 100000 in
theorem wd_947 : Cond.instanceMethod yX9_smokeOf ∈ om_tbl := om_in (i := 947) rfl rfl
set_option maxRecDepth 100000 in
theorem wd_948 : Cond.code yX9_smokeOf cX9_smokeOf 5 (some FieldType.int) ∈ om_tbl := om_in (i := 948) rfl rfl
set_option maxRecDepth 100000 in
theorem wd_949 : Cond.methodLink RL 26 yX9_become ∈ om_tbl := om_in (i := 949) rfl rfl
set_option maxRecDepth 100000 in
theorem wd_950 : Cond.instanceMethod yX9_become ∈ om_tbl := om_in (i := 950) rfl rfl
set_option maxRecDepth 100000 in
theorem wd_951 : Cond.selects RX9 yX9_become yX9_become ∈ om_tbl := om_in (i := 951) rfl rfl
set_option maxRecDepth 100000 in
theorem wd_952 : Cond.code yX9_become cX9_become 3 (some FieldType.int) ∈ om_tbl := om_in (i := 952) rfl rfl
set_option maxRecDepth 100000 in
theorem wd_953 : Cond.methodLink RX9 171 yX9_change1 ∈ om_tbl := om_in (i := 953) rfl rfl
set_option maxRecDepth 100000 in
theorem wd_955 : Cond.instanceMethod yX9_change1 ∈ om_tbl := om_in (i := 955) rfl rfl
set_option maxRecDepth 100000 in
theorem wd_956 : Cond.code yX9_change1 cX9_change1 4 (some FieldType.int) ∈ om_tbl := om_in (i := 956) rfl rfl
set_option maxRecDepth 100000 in
theorem wd_957 : Cond.methodLink RL 30 yX9_as ∈ om_tbl := om_in (i := 957) rfl rfl
set_option maxRecDepth 100000 in
theorem wd_958 : Cond.instanceMethod yX9_as ∈ om_tbl := om_in (i := 958) rfl rfl
set_option maxRecDepth 100000 in
theorem wd_959 : Cond.selects RX9 yX9_as yX9_as ∈ om_tbl := om_in (i := 959) rfl rfl
set_option maxRecDepth 100000 in
theorem wd_960 : Cond.code yX9_as cX9_as 4 (some FieldType.int) ∈ om_tbl := om_in (i := 960) rfl rfl
set_option maxRecDepth 100000 in
theorem wd_961 : Cond.methodLink RX9 174 yX9_above ∈ om_tbl := om_in (i := 961) rfl rfl
set_option maxRecDepth 100000 in
theorem wd_962 : Cond.static yX9_above ∈ om_tbl := om_in (i := 962) rfl rfl
set_option maxRecDepth 100000 in
theorem wd_963 : Cond.code yX9_above cX9_above 1 (some FieldType.int) ∈ om_tbl := om_in (i := 963) rfl rfl
set_option maxRecDepth 100000 in
theorem wd_964 : Cond.methodLink RL 34 yX9_fills ∈ om_tbl := om_in (i := 964) rfl rfl
set_option maxRecDepth 100000 in
theorem wd_965 : Cond.instanceMethod yX9_fills ∈ om_tbl := om_in (i := 965) rfl rfl
set_option maxRecDepth 100000 in
theorem wd_966 : Cond.selects RX9 yX9_fills yX9_fills ∈ om_tbl := om_in (i := 966) rfl rfl
set_option maxRecDepth 100000 in
theorem wd_967 : Cond.code yX9_fills cX9_fills 3 (some FieldType.int) ∈ om_tbl := om_in (i := 967) rfl rfl
set_option maxRecDepth 100000 in
theorem wd_968 : Cond.methodLink RL 38 yX9_dear ∈ om_tbl := om_in (i := 968) rfl rfl
set_option maxRecDepth 100000 in
theorem wd_969 : Cond.instanceMethod yX9_dear ∈ om_tbl := om_in (i := 969) rfl rfl
set_option maxRecDepth 100000 in
theorem wd_970 : Cond.selects RX9 yX9_dear yX9_dear ∈ om_tbl := om_in (i := 970) rfl rfl
set_option maxRecDepth 100000 in
theorem wd_971 : Cond.code yX9_dear cX9_dear 3 (some FieldType.int) ∈ om_tbl := om_in (i := 971) rfl rfl
set_option maxRecDepth 100000 in
theorem wd_972 : Cond.methodLink RL 42 yX9_trim ∈ om_tbl := om_in (i := 972) rfl rfl
set_option maxRecDepth 100000 in
theorem wd_973 : Cond.instanceMethod yX9_trim ∈ om_tbl := om_in (i := 973) rfl rfl
set_option maxRecDepth 100000 in
theorem wd_974 : Cond.selects RX9 yX9_trim yX9_trim ∈ om_tbl := om_in (i := 974) rfl rfl
set_option maxRecDepth 100000 in
theorem wd_975 : Cond.code yX9_trim cX9_trim 4 (some FieldType.int) ∈ om_tbl := om_in (i := 975) rfl rfl
set_option maxRecDepth 100000 in
theorem wd_976 : Cond.methodLink RX9 177 yX9_isKeeper ∈ om_tbl := om_in (i := 976) rfl rfl
set_option maxRecDepth 100000 in
theorem wd_977 : Cond.static yX9_isKeeper ∈ om_tbl := om_in (i := 977) rfl rfl
set_option maxRecDepth 100000 in
theorem wd_978 : Cond.code yX9_isKeeper cX9_isKeeper 1 (some FieldType.boolean) ∈ om_tbl := om_in (i := 978) rfl rfl
set_option maxRecDepth 100000 in
theorem wd_979 : Cond.methodLink RL 46 yX9_tells ∈ om_tbl := om_in (i := 979) rfl rfl
set_option maxRecDepth 100000 in
theorem wd_980 : Cond.instanceMethod yX9_tells ∈ om_tbl := om_in (i := 980) rfl rfl
set_option maxRecDepth 100000 in
theorem wd_981 : Cond.selects RX9 yX9_tells yX9_tells ∈ om_tbl := om_in (i := 981) rfl rfl
set_option maxRecDepth 100000 in
theorem wd_982 : Cond.code yX9_tells cX9_tells 4 (some FieldType.int) ∈ om_tbl := om_in (i := 982) rfl rfl
set_option maxRecDepth 100000 in
theorem wd_983 : Cond.methodLink RL 51 yX9_blows ∈ om_tbl := om_in (i := 983) rfl rfl
set_option maxRecDepth 100000 in
theorem wd_984 : Cond.instanceMethod yX9_blows ∈ om_tbl := om_in (i := 984) rfl rfl
set_option maxRecDepth 100000 in
theorem wd_985 : Cond.selects RX9 yX9_blows yX9_blows ∈ om_tbl := om_in (i := 985) rfl rfl
set_option maxRecDepth 100000 in
theorem wd_986 : Cond.code yX9_blows cX9_blows 2 (some FieldType.int) ∈ om_tbl := om_in (i := 986) rfl rfl
set_option maxRecDepth 100000 in
theorem wd_987 : Cond.methodLink RL 71 yX9_law ∈ om_tbl := om_in (i := 987) rfl rfl
set_option maxRecDepth 100000 in
theorem wd_988 : Cond.instanceMethod yX9_law ∈ om_tbl := om_in (i := 988) rfl rfl
set_option maxRecDepth 100000 in
theorem wd_989 : Cond.selects RX9 yX9_law yX9_law ∈ om_tbl := om_in (i := 989) rfl rfl
set_option maxRecDepth 100000 in
theorem wd_990 : Cond.code yX9_law cX9_law 5 (some FieldType.int) ∈ om_tbl := om_in (i := 990) rfl rfl
set_option maxRecDepth 100000 in
theorem wd_991 : Cond.methodLink RX9 145 yX9_wantedTold ∈ om_tbl := om_in (i := 991) rfl rfl
set_option maxRecDepth 100000 in
theorem wd_993 : Cond.instanceMethod yX9_wantedTold ∈ om_tbl := om_in (i := 993) rfl rfl
set_option maxRecDepth 100000 in
theorem wd_994 : Cond.code yX9_wantedTold cX9_wantedTold 4 (some FieldType.int) ∈ om_tbl := om_in (i := 994) rfl rfl
set_option maxRecDepth 100000 in
theorem wd_995 : Cond.methodLink RL 75 yX9_nights ∈ om_tbl := om_in (i := 995) rfl rfl
set_option maxRecDepth 100000 in
theorem wd_996 : Cond.instanceMethod yX9_nights ∈ om_tbl := om_in (i := 996) rfl rfl
set_option maxRecDepth 100000 in
theorem wd_997 : Cond.selects RX9 yX9_nights yX9_nights ∈ om_tbl := om_in (i := 997) rfl rfl
set_option maxRecDepth 100000 in
theorem wd_998 : Cond.code yX9_nights cX9_nights 3 (some FieldType.int) ∈ om_tbl := om_in (i := 998) rfl rfl
set_option maxRecDepth 100000 in
theorem wd_999 : Cond.methodLink RX9 180 yX9_whyNot ∈ om_tbl := om_in (i := 999) rfl rfl
set_option maxRecDepth 100000 in
theorem wd_1001 : Cond.instanceMethod yX9_whyNot ∈ om_tbl := om_in (i := 1001) rfl rfl
set_option maxRecDepth 100000 in
theorem wd_1002 : Cond.code yX9_whyNot cX9_whyNot 3 (some FieldType.int) ∈ om_tbl := om_in (i := 1002) rfl rfl
set_option maxRecDepth 100000 in
theorem wd_1003 : Cond.methodLink RX9 183 yX9_goes ∈ om_tbl := om_in (i := 1003) rfl rfl
set_option maxRecDepth 100000 in
theorem wd_1005 : Cond.instanceMethod yX9_goes ∈ om_tbl := om_in (i := 1005) rfl rfl
set_option maxRecDepth 100000 in
theorem wd_1006 : Cond.code yX9_goes cX9_goes 4 (some FieldType.int) ∈ om_tbl := om_in (i := 1006) rfl rfl
set_option maxRecDepth 100000 in
theorem wd_1007 : Cond.methodLink RX9 161 yX9_aNight ∈ om_tbl := om_in (i := 1007) rfl rfl
set_option maxRecDepth 100000 in
theorem wd_1009 : Cond.instanceMethod yX9_aNight ∈ om_tbl := om_in (i := 1009) rfl rfl
set_option maxRecDepth 100000 in
theorem wd_1010 : Cond.code yX9_aNight cX9_aNight 3 (some FieldType.boolean) ∈ om_tbl := om_in (i := 1010) rfl rfl
set_option maxRecDepth 100000 in
theorem wd_1011 : Cond.methodLink RX9 154 yX9_tonightSet ∈ om_tbl := om_in (i := 1011) rfl rfl
set_option maxRecDepth 100000 in
theorem wd_1013 : Cond.instanceMethod yX9_tonightSet ∈ om_tbl := om_in (i := 1013) rfl rfl
set_option maxRecDepth 100000 in
theorem wd_1014 : Cond.code yX9_tonightSet cX9_tonightSet 6 (some FieldType.int) ∈ om_tbl := om_in (i := 1014) rfl rfl
set_option maxRecDepth 100000 in
theorem wd_1015 : Cond.methodLink RX9 148 yX9_wanted ∈ om_tbl := om_in (i := 1015) rfl rfl
set_option maxRecDepth 100000 in
theorem wd_1017 : Cond.instanceMethod yX9_wanted ∈ om_tbl := om_in (i := 1017) rfl rfl
set_option maxRecDepth 100000 in
theorem wd_1018 : Cond.code yX9_wanted cX9_wanted 3 (some FieldType.int) ∈ om_tbl := om_in (i := 1018) rfl rfl
set_option maxRecDepth 100000 in
theorem wd_1019 : Cond.methodLink RX9 151 yX9_givesBy ∈ om_tbl := om_in (i := 1019) rfl rfl
set_option maxRecDepth 100000 in
theorem wd_1021 : Cond.instanceMethod yX9_givesBy ∈ om_tbl := om_in (i := 1021) rfl rfl
set_option maxRecDepth 100000 in
theorem wd_1022 : Cond.code yX9_givesBy cX9_givesBy 3 (some FieldType.int) ∈ om_tbl := om_in (i := 1022) rfl rfl
set_option maxRecDepth 100000 in
theorem wd_1023 : Cond.methodLink RL 79 yX9_loose ∈ om_tbl := om_in (i := 1023) rfl rfl
set_option maxRecDepth 100000 in
theorem wd_1024 : Cond.instanceMethod yX9_loose ∈ om_tbl := om_in (i := 1024) rfl rfl
set_option maxRecDepth 100000 in
theorem wd_1025 : Cond.selects RX9 yX9_loose yX9_loose ∈ om_tbl := om_in (i := 1025) rfl rfl
set_option maxRecDepth 100000 in
theorem wd_1026 : Cond.code yX9_loose cX9_loose 5 (some FieldType.int) ∈ om_tbl := om_in (i := 1026) rfl rfl
set_option maxRecDepth 100000 in
theorem wd_1027 : Cond.methodLink RX9 189 yX9_weathers ∈ om_tbl := om_in (i := 1027) rfl rfl
set_option maxRecDepth 100000 in
theorem wd_1029 : Cond.instanceMethod yX9_weathers ∈ om_tbl := om_in (i := 1029) rfl rfl
set_option maxRecDepth 100000 in
theorem wd_1030 : Cond.code yX9_weathers cX9_weathers 2 none ∈ om_tbl := om_in (i := 1030) rfl rfl
set_option maxRecDepth 100000 in
theorem wd_1031 : Cond.methodLink RX9 186 yX9_draw ∈ om_tbl := om_in (i := 1031) rfl rfl
set_option maxRecDepth 100000 in
theorem wd_1033 : Cond.instanceMethod yX9_draw ∈ om_tbl := om_in (i := 1033) rfl rfl
set_option maxRecDepth 100000 in
theorem wd_1034 : Cond.code yX9_draw cX9_draw 1 (some FieldType.int) ∈ om_tbl := om_in (i := 1034) rfl rfl
set_option maxRecDepth 100000 in
theorem wd_1035 : Cond.constant RX9 164 1103515245 ∈ om_tbl := om_in (i := 1035) rfl rfl
set_option maxRecDepth 100000 in
theorem wd_1036 : Cond.methodLink RL 83 yX9_seed ∈ om_tbl := om_in (i := 1036) rfl rfl
set_option maxRecDepth 100000 in
theorem wd_1037 : Cond.instanceMethod yX9_seed ∈ om_tbl := om_in (i := 1037) rfl rfl
set_option maxRecDepth 100000 in
theorem wd_1038 : Cond.selects RX9 yX9_seed yX9_seed ∈ om_tbl := om_in (i := 1038) rfl rfl
set_option maxRecDepth 100000 in
theorem wd_1039 : Cond.code yX9_seed cX9_seed 2 (some FieldType.int) ∈ om_tbl := om_in (i := 1039) rfl rfl
set_option maxRecDepth 100000 in
theorem wd_1040 : Cond.methodLink RL 87 yX9_tonight ∈ om_tbl := om_in (i := 1040) rfl rfl
set_option maxRecDepth 100000 in
theorem wd_1041 : Cond.instanceMethod yX9_tonight ∈ om_tbl := om_in (i := 1041) rfl rfl
set_option maxRecDepth 100000 in
theorem wd_1042 : Cond.selects RX9 yX9_tonight yX9_tonight ∈ om_tbl := om_in (i := 1042) rfl rfl
set_option maxRecDepth 100000 in
theorem wd_1043 : Cond.code yX9_tonight cX9_tonight 3 (some FieldType.int) ∈ om_tbl := om_in (i := 1043) rfl rfl
set_option maxRecDepth 100000 in
theorem wd_1044 : Cond.methodLink RL 92 yX9_lasts ∈ om_tbl := om_in (i := 1044) rfl rfl
set_option maxRecDepth 100000 in
theorem wd_1045 : Cond.instanceMethod yX9_lasts ∈ om_tbl := om_in (i := 1045) rfl rfl
set_option maxRecDepth 100000 in
theorem wd_1046 : Cond.selects RX9 yX9_lasts yX9_lasts ∈ om_tbl := om_in (i := 1046) rfl rfl
set_option maxRecDepth 100000 in
theorem wd_1047 : Cond.code yX9_lasts cX9_lasts 1 (some FieldType.int) ∈ om_tbl := om_in (i := 1047) rfl rfl
set_option maxRecDepth 100000 in
theorem wd_1048 : Cond.methodLink RX9 198 yX9_litNights ∈ om_tbl := om_in (i := 1048) rfl rfl
set_option maxRecDepth 100000 in
theorem wd_1050 : Cond.instanceMethod yX9_litNights ∈ om_tbl := om_in (i := 1050) rfl rfl
set_option maxRecDepth 100000 in
theorem wd_1051 : Cond.code yX9_litNights cX9_litNights 2 (some FieldType.int) ∈ om_tbl := om_in (i := 1051) rfl rfl
set_option maxRecDepth 100000 in
theorem wd_1052 : Cond.methodLink RX9 192 yX9_layDown ∈ om_tbl := om_in (i := 1052) rfl rfl
set_option maxRecDepth 100000 in
theorem wd_1054 : Cond.instanceMethod yX9_layDown ∈ om_tbl := om_in (i := 1054) rfl rfl
set_option maxRecDepth 100000 in
theorem wd_1055 : Cond.code yX9_layDown cX9_layDown 2 none ∈ om_tbl := om_in (i := 1055) rfl rfl
set_option maxRecDepth 100000 in
theorem wd_1056 : Cond.methodLink RX9 195 yX9_layBack ∈ om_tbl := om_in (i := 1056) rfl rfl
set_option maxRecDepth 100000 in
theorem wd_1058 : Cond.instanceMethod yX9_layBack ∈ om_tbl := om_in (i := 1058) rfl rfl
set_option maxRecDepth 100000 in
theorem wd_1059 : Cond.code yX9_layBack cX9_layBack 2 none ∈ om_tbl := om_in (i := 1059) rfl rfl
set_option maxRecDepth 100000 in
theorem wd_1060 : Cond.methodLink RL 96 yX9_without ∈ om_tbl := om_in (i := 1060) rfl rfl
set_option maxRecDepth 100000 in
theorem wd_1061 : Cond.instanceMethod yX9_without ∈ om_tbl := om_in (i := 1061) rfl rfl
set_option maxRecDepth 100000 in
theorem wd_1062 : Cond.selects RX9 yX9_without yX9_without ∈ om_tbl := om_in (i := 1062) rfl rfl
set_option maxRecDepth 100000 in
theorem wd_1063 : Cond.code yX9_without cX9_without 4 (some FieldType.int) ∈ om_tbl := om_in (i := 1063) rfl rfl
set_option maxRecDepth 100000 in
theorem wd_1064 : Cond.methodLink RL 100 yX9_then ∈ om_tbl := om_in (i := 1064) rfl rfl
set_option maxRecDepth 100000 in
theorem wd_1065 : Cond.instanceMethod yX9_then ∈ om_tbl := om_in (i := 1065) rfl rfl
set_option maxRecDepth 100000 in
theorem wd_1066 : Cond.selects RX9 yX9_then yX9_then ∈ om_tbl := om_in (i := 1066) rfl rfl
set_option maxRecDepth 100000 in
theorem wd_1067 : Cond.code yX9_then cX9_then 5 (some FieldType.int) ∈ om_tbl := om_in (i := 1067) rfl rfl
set_option maxRecDepth 100000 in
theorem wd_1068 : Cond.methodLink RL 104 yX9_has ∈ om_tbl := om_in (i := 1068) rfl rfl
set_option maxRecDepth 100000 in
theorem wd_1069 : Cond.instanceMethod yX9_has ∈ om_tbl := om_in (i := 1069) rfl rfl
set_option maxRecDepth 100000 in
theorem wd_1070 : Cond.selects RX9 yX9_has yX9_has ∈ om_tbl := om_in (i := 1070) rfl rfl
set_option maxRecDepth 100000 in
theorem wd_1071 : Cond.code yX9_has cX9_has 5 (some FieldType.int) ∈ om_tbl := om_in (i := 1071) rfl rfl
set_option maxRecDepth 100000 in
theorem wd_1072 : Cond.methodLink RL 108 yX9_mixes ∈ om_tbl := om_in (i := 1072) rfl rfl
set_option maxRecDepth 100000 in
theorem wd_1073 : Cond.instanceMethod yX9_mixes ∈ om_tbl := om_in (i := 1073) rfl rfl
set_option maxRecDepth 100000 in
theorem wd_1074 : Cond.selects RX9 yX9_mixes yX9_mixes ∈ om_tbl := om_in (i := 1074) rfl rfl
set_option maxRecDepth 100000 in
theorem wd_1075 : Cond.code yX9_mixes cX9_mixes 5 (some FieldType.int) ∈ om_tbl := om_in (i := 1075) rfl rfl
set_option maxRecDepth 100000 in
theorem wd_1076 : Cond.methodLink RL 112 yX9_odds ∈ om_tbl := om_in (i := 1076) rfl rfl
set_option maxRecDepth 100000 in
theorem wd_1077 : Cond.instanceMethod yX9_odds ∈ om_tbl := om_in (i := 1077) rfl rfl
set_option maxRecDepth 100000 in
theorem wd_1078 : Cond.selects RX9 yX9_odds yX9_odds ∈ om_tbl := om_in (i := 1078) rfl rfl
set_option maxRecDepth 100000 in
theorem wd_1079 : Cond.code yX9_odds cX9_odds 5 (some FieldType.int) ∈ om_tbl := om_in (i := 1079) rfl rfl
set_option maxRecDepth 100000 in
theorem wd_1080 : Cond.methodLink RX9 201 yX9_divisor ∈ om_tbl := om_in (i := 1080) rfl rfl
set_option maxRecDepth 100000 in
theorem wd_1081 : Cond.static yX9_divisor ∈ om_tbl := om_in (i := 1081) rfl rfl
set_option maxRecDepth 100000 in
theorem wd_1082 : Cond.code yX9_divisor cX9_divisor 5 (some FieldType.int) ∈ om_tbl := om_in (i := 1082) rfl rfl
set_option maxRecDepth 100000 in
theorem wd_1083 : Cond.methodLink RL 116 yX9_fits ∈ om_tbl := om_in (i := 1083) rfl rfl
set_option maxRecDepth 100000 in
theorem wd_1084 : Cond.instanceMethod yX9_fits ∈ om_tbl := om_in (i := 1084) rfl rfl
set_option maxRecDepth 100000 in
theorem wd_1085 : Cond.selects RX9 yX9_fits yX9_fits ∈ om_tbl := om_in (i := 1085) rfl rfl
set_option maxRecDepth 100000 in
theorem wd_1086 : Cond.code yX9_fits cX9_fits 5 (some FieldType.int) ∈ om_tbl := om_in (i := 1086) rfl rfl
set_option maxRecDepth 100000 in
theorem wd_1087 : Cond.methodLink RX9 204 yX9_lacks ∈ om_tbl := om_in (i := 1087) rfl rfl
set_option maxRecDepth 100000 in
theorem wd_1089 : Cond.instanceMethod yX9_lacks ∈ om_tbl := om_in (i := 1089) rfl rfl
set_option maxRecDepth 100000 in
theorem wd_1090 : Cond.code yX9_lacks cX9_lacks 2 (some FieldType.int) ∈ om_tbl := om_in (i := 1090) rfl rfl
set_option maxRecDepth 100000 in
theorem wd_1091 : Cond.methodLink RX9 242 yX9_isSheet ∈ om_tbl := om_in (i := 1091) rfl rfl
set_option maxRecDepth 100000 in
theorem wd_1092 : Cond.static yX9_isSheet ∈ om_tbl := om_in (i := 1092) rfl rfl
set_option maxRecDepth 100000 in
theorem wd_1093 : Cond.code yX9_isSheet cX9_isSheet 1 (some FieldType.boolean) ∈ om_tbl := om_in (i := 1093) rfl rfl
set_option maxRecDepth 100000 in
theorem wd_1094 : Cond.methodLink RX9 207 yX9_areLeftSo ∈ om_tbl := om_in (i := 1094) rfl rfl
set_option maxRecDepth 100000 in
theorem wd_1096 : Cond.instanceMethod yX9_areLeftSo ∈ om_tbl := om_in (i := 1096) rfl rfl
set_option maxRecDepth 100000 in
theorem wd_1097 : Cond.code yX9_areLeftSo cX9_areLeftSo 4 (some FieldType.boolean) ∈ om_tbl := om_in (i := 1097) rfl rfl
set_option maxRecDepth 100000 in
theorem wd_1098 : Cond.methodLink RL 120 yX9_voice ∈ om_tbl := om_in (i := 1098) rfl rfl
set_option maxRecDepth 100000 in
theorem wd_1099 : Cond.instanceMethod yX9_voice ∈ om_tbl := om_in (i := 1099) rfl rfl
set_option maxRecDepth 100000 in
theorem wd_1100 : Cond.selects RX9 yX9_voice yX9_voice ∈ om_tbl := om_in (i := 1100) rfl rfl
set_option maxRecDepth 100000 in
theorem wd_1101 : Cond.code yX9_voice cX9_voice 6 (some FieldType.int) ∈ om_tbl := om_in (i := 1101) rfl rfl
set_option maxRecDepth 100000 in
theorem wd_1102 : Cond.methodLink RX9 223 yX9_kindNow ∈ om_tbl := om_in (i := 1102) rfl rfl
set_option maxRecDepth 100000 in
theorem wd_1104 : Cond.instanceMethod yX9_kindNow ∈ om_tbl := om_in (i := 1104) rfl rfl
set_option maxRecDepth 100000 in
theorem wd_1105 : Cond.code yX9_kindNow cX9_kindNow 1 (some FieldType.int) ∈ om_tbl := om_in (i := 1105) rfl rfl
set_option maxRecDepth 100000 in
theorem wd_1106 : Cond.methodLink RX9 220 yX9_glowsAs ∈ om_tbl := om_in (i := 1106) rfl rfl
set_option maxRecDepth 100000 in
theorem wd_1108 : Cond.instanceMethod yX9_glowsAs ∈ om_tbl := om_in (i := 1108) rfl rfl
set_option maxRecDepth 100000 in
theorem wd_1109 : Cond.code yX9_glowsAs cX9_glowsAs 3 (some FieldType.int) ∈ om_tbl := om_in (i := 1109) rfl rfl
set_option maxRecDepth 100000 in
theorem wd_1110 : Cond.methodLink RX9 216 yX9_starts ∈ om_tbl := om_in (i := 1110) rfl rfl
set_option maxRecDepth 100000 in
theorem wd_1112 : Cond.instanceMethod yX9_starts ∈ om_tbl := om_in (i := 1112) rfl rfl
set_option maxRecDepth 100000 in
theorem wd_1113 : Cond.code yX9_starts cX9_starts 2 none ∈ om_tbl := om_in (i := 1113) rfl rfl
set_option maxRecDepth 100000 in
theorem wd_1114 : Cond.methodLink RX9 226 yX9_turnsAs ∈ om_tbl := om_in (i := 1114) rfl rfl
set_option maxRecDepth 100000 in
theorem wd_1116 : Cond.instanceMethod yX9_turnsAs ∈ om_tbl := om_in (i := 1116) rfl rfl
set_option maxRecDepth 100000 in
theorem wd_1117 : Cond.code yX9_turnsAs cX9_turnsAs 3 (some FieldType.int) ∈ om_tbl := om_in (i := 1117) rfl rfl
set_option maxRecDepth 100000 in
theorem wd_1118 : Cond.methodLink RX9 229 yX9_mNow ∈ om_tbl := om_in (i := 1118) rfl rfl
set_option maxRecDepth 100000 in
theorem wd_1120 : Cond.instanceMethod yX9_mNow ∈ om_tbl := om_in (i := 1120) rfl rfl
set_option maxRecDepth 100000 in
theorem wd_1121 : Cond.code yX9_mNow cX9_mNow 1 (some FieldType.int) ∈ om_tbl := om_in (i := 1121) rfl rfl
set_option maxRecDepth 100000 in
theorem wd_1122 : Cond.methodLink RX9 232 yX9_guttersAs ∈ om_tbl := om_in (i := 1122) rfl rfl
set_option maxRecDepth 100000 in
theorem wd_1124 : Cond.instanceMethod yX9_guttersAs ∈ om_tbl := om_in (i := 1124) rfl rfl
set_option maxRecDepth 100000 in
theorem wd_1125 : Cond.code yX9_guttersAs cX9_guttersAs 3 (some FieldType.int) ∈ om_tbl := om_in (i := 1125) rfl rfl
set_option maxRecDepth 100000 in
theorem wd_1126 : Cond.methodLink RX9 239 yX9_partsAs ∈ om_tbl := om_in (i := 1126) rfl rfl
set_option maxRecDepth 100000 in
theorem wd_1128 : Cond.instanceMethod yX9_partsAs ∈ om_tbl := om_in (i := 1128) rfl rfl
set_option maxRecDepth 100000 in
theorem wd_1129 : Cond.code yX9_partsAs cX9_partsAs 5 (some FieldType.int) ∈ om_tbl := om_in (i := 1129) rfl rfl
set_option maxRecDepth 100000 in
theorem wd_1130 : Cond.methodLink RL 124 yX9_body ∈ om_tbl := om_in (i := 1130) rfl rfl
set_option maxRecDepth 100000 in
theorem wd_1131 : Cond.instanceMethod yX9_body ∈ om_tbl := om_in (i := 1131) rfl rfl
set_option maxRecDepth 100000 in
theorem wd_1132 : Cond.selects RX9 yX9_body yX9_body ∈ om_tbl := om_in (i := 1132) rfl rfl
set_option maxRecDepth 100000 in
theorem wd_1133 : Cond.code yX9_body cX9_body 2 (some FieldType.int) ∈ om_tbl := om_in (i := 1133) rfl rfl
set_option maxRecDepth 100000 in
theorem wd_1134 : Cond.methodLink RL 128 yX9_sheet ∈ om_tbl := om_in (i := 1134) rfl rfl
set_option maxRecDepth 100000 in
theorem wd_1135 : Cond.instanceMethod yX9_sheet ∈ om_tbl := om_in (i := 1135) rfl rfl
set_option maxRecDepth 100000 in
theorem wd_1136 : Cond.selects RX9 yX9_sheet yX9_sheet ∈ om_tbl := om_in (i := 1136) rfl rfl
set_option maxRecDepth 100000 in
theorem wd_1137 : Cond.code yX9_sheet cX9_sheet 5 (some FieldType.int) ∈ om_tbl := om_in (i := 1137) rfl rfl
set_option maxRecDepth 100000 in
theorem wd_1138 : Cond.methodLink RL 132 yX9_put ∈ om_tbl := om_in (i := 1138) rfl rfl
set_option maxRecDepth 100000 in
theorem wd_1139 : Cond.instanceMethod yX9_put ∈ om_tbl := om_in (i := 1139) rfl rfl
set_option maxRecDepth 100000 in
theorem wd_1140 : Cond.selects RX9 yX9_put yX9_put ∈ om_tbl := om_in (i := 1140) rfl rfl
set_option maxRecDepth 100000 in
theorem wd_1141 : Cond.code yX9_put cX9_put 5 (some FieldType.int) ∈ om_tbl := om_in (i := 1141) rfl rfl
set_option maxRecDepth 100000 in
theorem wd_1142 : Cond.methodLink RL 137 yX9_move ∈ om_tbl := om_in (i := 1142) rfl rfl
set_option maxRecDepth 100000 in
theorem wd_1143 : Cond.instanceMethod yX9_move ∈ om_tbl := om_in (i := 1143) rfl rfl
set_option maxRecDepth 100000 in
theorem wd_1144 : Cond.selects RX9 yX9_move yX9_move ∈ om_tbl := om_in (i := 1144) rfl rfl
set_option maxRecDepth 100000 in
theorem wd_1145 : Cond.code yX9_move cX9_move 7 (some FieldType.int) ∈ om_tbl := om_in (i := 1145) rfl rfl
set_option maxRecDepth 100000 in
theorem wd_1146 : Cond.methodLink RL 141 yX9_dears ∈ om_tbl := om_in (i := 1146) rfl rfl
set_option maxRecDepth 100000 in
theorem wd_1147 : Cond.instanceMethod yX9_dears ∈ om_tbl := om_in (i := 1147) rfl rfl
set_option maxRecDepth 100000 in
theorem wd_1148 : Cond.selects RX9 yX9_dears yX9_dears ∈ om_tbl := om_in (i := 1148) rfl rfl
set_option maxRecDepth 100000 in
theorem wd_1149 : Cond.code yX9_dears cX9_dears 4 (some FieldType.int) ∈ om_tbl := om_in (i := 1149) rfl rfl
set_option maxRecDepth 100000 in
theorem wd_1150 : Cond.methodLink RL 145 yX9_judge ∈ om_tbl := om_in (i := 1150) rfl rfl
set_option maxRecDepth 100000 in
theorem wd_1151 : Cond.instanceMethod yX9_judge ∈ om_tbl := om_in (i := 1151) rfl rfl
set_option maxRecDepth 100000 in
theorem wd_1152 : Cond.selects RX9 yX9_judge yX9_judge ∈ om_tbl := om_in (i := 1152) rfl rfl
set_option maxRecDepth 100000 in
theorem wd_1153 : Cond.code yX9_judge cX9_judge 4 (some FieldType.int) ∈ om_tbl := om_in (i := 1153) rfl rfl
set_option maxRecDepth 100000 in
theorem wd_1154 : Cond.methodLink RL 149 yX9_image ∈ om_tbl := om_in (i := 1154) rfl rfl
set_option maxRecDepth 100000 in
theorem wd_1155 : Cond.instanceMethod yX9_image ∈ om_tbl := om_in (i := 1155) rfl rfl
set_option maxRecDepth 100000 in
theorem wd_1156 : Cond.selects RX9 yX9_image yX9_image ∈ om_tbl := om_in (i := 1156) rfl rfl
set_option maxRecDepth 100000 in
theorem wd_1157 : Cond.code yX9_image cX9_image 1 (some FieldType.int) ∈ om_tbl := om_in (i := 1157) rfl rfl
set_option maxRecDepth 100000 in
theorem wd_1158 : Cond.methodLink RX9 245 yX9_copyAll ∈ om_tbl := om_in (i := 1158) rfl rfl
set_option maxRecDepth 100000 in
theorem wd_1159 : Cond.static yX9_copyAll ∈ om_tbl := om_in (i := 1159) rfl rfl
set_option maxRecDepth 100000 in
theorem wd_1160 : Cond.code yX9_copyAll cX9_copyAll 3 none ∈ om_tbl := om_in (i := 1160) rfl rfl
set_option maxRecDepth 100000 in
theorem wd_1161 : Cond.methodLink RL 153 yX9_restore ∈ om_tbl := om_in (i := 1161) rfl rfl
set_option maxRecDepth 100000 in
theorem wd_1162 : Cond.instanceMethod yX9_restore ∈ om_tbl := om_in (i := 1162) rfl rfl
set_option maxRecDepth 100000 in
theorem wd_1163 : Cond.selects RX9 yX9_restore yX9_restore ∈ om_tbl := om_in (i := 1163) rfl rfl
set_option maxRecDepth 100000 in
theorem wd_1164 : Cond.code yX9_restore cX9_restore 1 (some FieldType.int) ∈ om_tbl := om_in (i := 1164) rfl rfl
set_option maxRecDepth 100000 in
theorem wd_1165 : Cond.methodLink RL 157 yX9_tell ∈ om_tbl := om_in (i := 1165) rfl rfl
set_option maxRecDepth 100000 in
theorem wd_1166 : Cond.instanceMethod yX9_tell ∈ om_tbl := om_in (i := 1166) rfl rfl
set_option maxRecDepth 100000 in
theorem wd_1167 : Cond.selects RX9 yX9_tell yX9_tell ∈ om_tbl := om_in (i := 1167) rfl rfl
set_option maxRecDepth 100000 in
theorem wd_1168 : Cond.code yX9_tell cX9_tell 2 (some FieldType.int) ∈ om_tbl := om_in (i := 1168) rfl rfl
set_option maxRecDepth 100000 in
theorem wd_1169 : Cond.methodLink RL 161 yX9_check ∈ om_tbl := om_in (i := 1169) rfl rfl
set_option maxRecDepth 100000 in
theorem wd_1170 : Cond.instanceMethod yX9_check ∈ om_tbl := om_in (i := 1170) rfl rfl
set_option maxRecDepth 100000 in
theorem wd_1171 : Cond.selects RX9 yX9_check yX9_check ∈ om_tbl := om_in (i := 1171) rfl rfl
set_option maxRecDepth 100000 in
theorem wd_1172 : Cond.code yX9_check cX9_check 3 (some FieldType.int) ∈ om_tbl := om_in (i := 1172) rfl rfl
set_option maxRecDepth 100000 in
theorem wd_1173 : Cond.methodLink RL 165 yX9_count ∈ om_tbl := om_in (i := 1173) rfl rfl
set_option maxRecDepth 100000 in
theorem wd_1174 : Cond.instanceMethod yX9_count ∈ om_tbl := om_in (i := 1174) rfl rfl
set_option maxRecDepth 100000 in
theorem wd_1175 : Cond.selects RX9 yX9_count yX9_count ∈ om_tbl := om_in (i := 1175) rfl rfl
set_option maxRecDepth 100000 in
theorem wd_1176 : Cond.code yX9_count cX9_count 2 (some FieldType.int) ∈ om_tbl := om_in (i := 1176) rfl rfl
set_option maxRecDepth 100000 in
theorem wd_1177 : Cond.methodLink RL 169 yX9_told ∈ om_tbl := om_in (i := 1177) rfl rfl
set_option maxRecDepth 100000 in
theorem wd_1178 : Cond.instanceMethod yX9_told ∈ om_tbl := om_in (i := 1178) rfl rfl
set_option maxRecDepth 100000 in
theorem wd_1179 : Cond.selects RX9 yX9_told yX9_told ∈ om_tbl := om_in (i := 1179) rfl rfl
set_option maxRecDepth 100000 in
theorem wd_1180 : Cond.code yX9_told cX9_told 2 (some FieldType.int) ∈ om_tbl := om_in (i := 1180) rfl rfl
set_option maxRecDepth 100000 in
theorem wd_1181 : Cond.constantLong RL 52 4294967295 ∈ om_tbl := om_in (i := 1181) rfl rfl
theorem in_X0 : ∀ w ∈ u_ws RX0 TX0 5, w ∈ om_tbl := List.forall_mem_cons.mpr ⟨wd_188, List.forall_mem_cons.mpr ⟨wd_190, List.forall_mem_cons.mpr ⟨wd_192, List.forall_mem_cons.mpr ⟨wd_194, List.forall_mem_cons.mpr ⟨wd_196, fun _ h => absurd h List.not_mem_nil⟩⟩⟩⟩⟩
theorem in_X1 : ∀ w ∈ u_ws RX1 TX1 5, w ∈ om_tbl := List.forall_mem_cons.mpr ⟨wd_135, List.forall_mem_cons.mpr ⟨wd_137, List.forall_mem_cons.mpr ⟨wd_139, List.forall_mem_cons.mpr ⟨wd_141, List.forall_mem_cons.mpr ⟨wd_143, fun _ h => absurd h List.not_mem_nil⟩⟩⟩⟩⟩
theorem in_X2 : ∀ w ∈ u_ws RX2 TX2 4, w ∈ om_tbl := List.forall_mem_cons.mpr ⟨wd_216, List.forall_mem_cons.mpr ⟨wd_218, List.forall_mem_cons.mpr ⟨wd_220, List.forall_mem_cons.mpr ⟨wd_222, fun _ h => absurd h List.not_mem_nil⟩⟩⟩⟩
theorem in_X3 : ∀ w ∈ u_ws RX3 TX3 2, w ∈ om_tbl := List.forall_mem_cons.mpr ⟨wd_93, List.forall_mem_cons.mpr ⟨wd_95, fun _ h => absurd h List.not_mem_nil⟩⟩
theorem in_X4 : ∀ w ∈ u_ws RX4 TX4 3, w ∈ om_tbl := List.forall_mem_cons.mpr ⟨wd_262, List.forall_mem_cons.mpr ⟨wd_264, List.forall_mem_cons.mpr ⟨wd_266, fun _ h => absurd h List.not_mem_nil⟩⟩⟩
theorem in_X5 : ∀ w ∈ u_ws RX5 TX5 3, w ∈ om_tbl := List.forall_mem_cons.mpr ⟨wd_104, List.forall_mem_cons.mpr ⟨wd_106, List.forall_mem_cons.mpr ⟨wd_108, fun _ h => absurd h List.not_mem_nil⟩⟩⟩
theorem in_X6 : ∀ w ∈ u_ws RX6 TX6 8, w ∈ om_tbl := List.forall_mem_cons.mpr ⟨wd_160, List.forall_mem_cons.mpr ⟨wd_162, List.forall_mem_cons.mpr ⟨wd_164, List.forall_mem_cons.mpr ⟨wd_166, List.forall_mem_cons.mpr ⟨wd_168, List.forall_mem_cons.mpr ⟨wd_170, List.forall_mem_cons.mpr ⟨wd_172, List.forall_mem_cons.mpr ⟨wd_174, fun _ h => absurd h List.not_mem_nil⟩⟩⟩⟩⟩⟩⟩⟩
theorem in_X7 : ∀ w ∈ u_ws RX7 TX7 5, w ∈ om_tbl := List.forall_mem_cons.mpr ⟨wd_240, List.forall_mem_cons.mpr ⟨wd_242, List.forall_mem_cons.mpr ⟨wd_244, List.forall_mem_cons.mpr ⟨wd_246, List.forall_mem_cons.mpr ⟨wd_248, fun _ h => absurd h List.not_mem_nil⟩⟩⟩⟩⟩
theorem in_X8 : ∀ w ∈ u_ws RX8 TX8 13, w ∈ om_tbl := List.forall_mem_cons.mpr ⟨wd_282, List.forall_mem_cons.mpr ⟨wd_284, List.forall_mem_cons.mpr ⟨wd_286, List.forall_mem_cons.mpr ⟨wd_288, List.forall_mem_cons.mpr ⟨wd_290, List.forall_mem_cons.mpr ⟨wd_292, List.forall_mem_cons.mpr ⟨wd_294, List.forall_mem_cons.mpr ⟨wd_296, List.forall_mem_cons.mpr ⟨wd_298, List.forall_mem_cons.mpr ⟨wd_300, List.forall_mem_cons.mpr ⟨wd_302, List.forall_mem_cons.mpr ⟨wd_304, List.forall_mem_cons.mpr ⟨wd_306, fun _ h => absurd h List.not_mem_nil⟩⟩⟩⟩⟩⟩⟩⟩⟩⟩⟩⟩⟩
theorem in_X9 : ∀ w ∈ u_ws RX9 TX9 23, w ∈ om_tbl := List.forall_mem_cons.mpr ⟨wd_785, List.forall_mem_cons.mpr ⟨wd_787, List.forall_mem_cons.mpr ⟨wd_789, List.forall_mem_cons.mpr ⟨wd_791, List.forall_mem_cons.mpr ⟨wd_793, List.forall_mem_cons.mpr ⟨wd_795, List.forall_mem_cons.mpr ⟨wd_797, List.forall_mem_cons.mpr ⟨wd_799, List.forall_mem_cons.mpr ⟨wd_801, List.forall_mem_cons.mpr ⟨wd_803, List.forall_mem_cons.mpr ⟨wd_805, List.forall_mem_cons.mpr ⟨wd_807, List.forall_mem_cons.mpr ⟨wd_809, List.forall_mem_cons.mpr ⟨wd_811, List.forall_mem_cons.mpr ⟨wd_813, List.forall_mem_cons.mpr ⟨wd_815, List.forall_mem_cons.mpr ⟨wd_817, List.forall_mem_cons.mpr ⟨wd_819, List.forall_mem_cons.mpr ⟨wd_821, List.forall_mem_cons.mpr ⟨wd_823, List.forall_mem_cons.mpr ⟨wd_825, List.forall_mem_cons.mpr ⟨wd_827, List.forall_mem_cons.mpr ⟨wd_829, fun _ h => absurd h List.not_mem_nil⟩⟩⟩⟩⟩⟩⟩⟩⟩⟩⟩⟩⟩⟩⟩⟩⟩⟩⟩⟩⟩⟩⟩
end
