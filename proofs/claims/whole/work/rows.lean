section
-- ===== PART A: goes FIRST, ahead of the names: the tables' words, and 'selects' of the private methods out of them =====
/-- a private method of a class that the tables say can be made, by its rows of tables_1 -/
def lw_okq (q : MethodName × Nat) : Prop := (q.1.cls ≠ "java/lang/invoke/MethodHandle" ∧ q.1.cls ≠ "java/lang/invoke/VarHandle") ∧ Cond.instantiable q.1.cls q.2 ∈ tables_1 ∧ Cond.privateMethod q.1 ∈ tables_1 ∧ Cond.instanceMethod q.1 ∈ tables_1
theorem lw_p0 : lw_okq (⟨"OilMemories", "refuse", "(I)I"⟩, 13) := ⟨⟨by decide +kernel, by decide +kernel⟩, List.mem_of_getElem? (i := 14) (by decide +kernel), List.mem_of_getElem? (i := 270) (by decide +kernel), List.mem_of_getElem? (i := 271) (by decide +kernel)⟩
theorem lw_p1 : lw_okq (⟨"OilMemories$Reader", "readChain", "(II)Z"⟩, 4) := ⟨⟨by decide +kernel, by decide +kernel⟩, List.mem_of_getElem? (i := 152) (by decide +kernel), List.mem_of_getElem? (i := 403) (by decide +kernel), List.mem_of_getElem? (i := 404) (by decide +kernel)⟩
theorem lw_p2 : lw_okq (⟨"OilMemories$Reader", "readUnit", "(I)Z"⟩, 4) := ⟨⟨by decide +kernel, by decide +kernel⟩, List.mem_of_getElem? (i := 152) (by decide +kernel), List.mem_of_getElem? (i := 407) (by decide +kernel), List.mem_of_getElem? (i := 408) (by decide +kernel)⟩
theorem lw_p3 : lw_okq (⟨"OilMemories$Reader", "readNumber", "()V"⟩, 4) := ⟨⟨by decide +kernel, by decide +kernel⟩, List.mem_of_getElem? (i := 152) (by decide +kernel), List.mem_of_getElem? (i := 423) (by decide +kernel), List.mem_of_getElem? (i := 424) (by decide +kernel)⟩
theorem lw_p4 : lw_okq (⟨"OilMemories$Reader", "readNot", "(I)Z"⟩, 4) := ⟨⟨by decide +kernel, by decide +kernel⟩, List.mem_of_getElem? (i := 152) (by decide +kernel), List.mem_of_getElem? (i := 432) (by decide +kernel), List.mem_of_getElem? (i := 433) (by decide +kernel)⟩
theorem lw_p5 : lw_okq (⟨"OilMemories$Reader", "readBracketed", "(I)Z"⟩, 4) := ⟨⟨by decide +kernel, by decide +kernel⟩, List.mem_of_getElem? (i := 152) (by decide +kernel), List.mem_of_getElem? (i := 436) (by decide +kernel), List.mem_of_getElem? (i := 437) (by decide +kernel)⟩
theorem lw_p6 : lw_okq (⟨"OilMemories", "litNightsAhead", "(I)I"⟩, 13) := ⟨⟨by decide +kernel, by decide +kernel⟩, List.mem_of_getElem? (i := 14) (by decide +kernel), List.mem_of_getElem? (i := 542) (by decide +kernel), List.mem_of_getElem? (i := 543) (by decide +kernel)⟩
theorem lw_p7 : lw_okq (⟨"OilMemories", "sheetAt", "(I)LOilMemories$Sheet;"⟩, 13) := ⟨⟨by decide +kernel, by decide +kernel⟩, List.mem_of_getElem? (i := 14) (by decide +kernel), List.mem_of_getElem? (i := 584) (by decide +kernel), List.mem_of_getElem? (i := 585) (by decide +kernel)⟩
theorem lw_p8 : lw_okq (⟨"OilMemoriesModel", "error", "(I)I"⟩, 23) := ⟨⟨by decide +kernel, by decide +kernel⟩, List.mem_of_getElem? (i := 707) (by decide +kernel), List.mem_of_getElem? (i := 790) (by decide +kernel), List.mem_of_getElem? (i := 791) (by decide +kernel)⟩
theorem lw_p9 : lw_okq (⟨"OilMemoriesModel", "whole", "()Z"⟩, 23) := ⟨⟨by decide +kernel, by decide +kernel⟩, List.mem_of_getElem? (i := 707) (by decide +kernel), List.mem_of_getElem? (i := 800) (by decide +kernel), List.mem_of_getElem? (i := 801) (by decide +kernel)⟩
theorem lw_p10 : lw_okq (⟨"OilMemoriesModel", "both", "()Z"⟩, 23) := ⟨⟨by decide +kernel, by decide +kernel⟩, List.mem_of_getElem? (i := 707) (by decide +kernel), List.mem_of_getElem? (i := 804) (by decide +kernel), List.mem_of_getElem? (i := 805) (by decide +kernel)⟩
theorem lw_p11 : lw_okq (⟨"OilMemoriesModel", "compared", "()Z"⟩, 23) := ⟨⟨by decide +kernel, by decide +kernel⟩, List.mem_of_getElem? (i := 707) (by decide +kernel), List.mem_of_getElem? (i := 808) (by decide +kernel), List.mem_of_getElem? (i := 809) (by decide +kernel)⟩
theorem lw_p12 : lw_okq (⟨"OilMemoriesModel", "sum", "()Z"⟩, 23) := ⟨⟨by decide +kernel, by decide +kernel⟩, List.mem_of_getElem? (i := 707) (by decide +kernel), List.mem_of_getElem? (i := 812) (by decide +kernel), List.mem_of_getElem? (i := 813) (by decide +kernel)⟩
theorem lw_p13 : lw_okq (⟨"OilMemoriesModel", "product", "()Z"⟩, 23) := ⟨⟨by decide +kernel, by decide +kernel⟩, List.mem_of_getElem? (i := 707) (by decide +kernel), List.mem_of_getElem? (i := 816) (by decide +kernel), List.mem_of_getElem? (i := 817) (by decide +kernel)⟩
theorem lw_p14 : lw_okq (⟨"OilMemoriesModel", "one", "()Z"⟩, 23) := ⟨⟨by decide +kernel, by decide +kernel⟩, List.mem_of_getElem? (i := 707) (by decide +kernel), List.mem_of_getElem? (i := 820) (by decide +kernel), List.mem_of_getElem? (i := 821) (by decide +kernel)⟩
theorem lw_p15 : lw_okq (⟨"OilMemoriesModel", "look", "()I"⟩, 23) := ⟨⟨by decide +kernel, by decide +kernel⟩, List.mem_of_getElem? (i := 707) (by decide +kernel), List.mem_of_getElem? (i := 824) (by decide +kernel), List.mem_of_getElem? (i := 825) (by decide +kernel)⟩
def lw_privs_1 : List (MethodName × Nat) := [(⟨"OilMemories", "refuse", "(I)I"⟩, 13), (⟨"OilMemories$Reader", "readChain", "(II)Z"⟩, 4), (⟨"OilMemories$Reader", "readUnit", "(I)Z"⟩, 4), (⟨"OilMemories$Reader", "readNumber", "()V"⟩, 4), (⟨"OilMemories$Reader", "readNot", "(I)Z"⟩, 4), (⟨"OilMemories$Reader", "readBracketed", "(I)Z"⟩, 4), (⟨"OilMemories", "litNightsAhead", "(I)I"⟩, 13), (⟨"OilMemories", "sheetAt", "(I)LOilMemories$Sheet;"⟩, 13), (⟨"OilMemoriesModel", "error", "(I)I"⟩, 23), (⟨"OilMemoriesModel", "whole", "()Z"⟩, 23), (⟨"OilMemoriesModel", "both", "()Z"⟩, 23), (⟨"OilMemoriesModel", "compared", "()Z"⟩, 23), (⟨"OilMemoriesModel", "sum", "()Z"⟩, 23), (⟨"OilMemoriesModel", "product", "()Z"⟩, 23), (⟨"OilMemoriesModel", "one", "()Z"⟩, 23), (⟨"OilMemoriesModel", "look", "()I"⟩, 23)]
theorem lw_r1 : ∀ q ∈ lw_privs_1, lw_okq q := List.forall_mem_cons.mpr ⟨lw_p0, List.forall_mem_cons.mpr ⟨lw_p1, List.forall_mem_cons.mpr ⟨lw_p2, List.forall_mem_cons.mpr ⟨lw_p3, List.forall_mem_cons.mpr ⟨lw_p4, List.forall_mem_cons.mpr ⟨lw_p5, List.forall_mem_cons.mpr ⟨lw_p6, List.forall_mem_cons.mpr ⟨lw_p7, List.forall_mem_cons.mpr ⟨lw_p8, List.forall_mem_cons.mpr ⟨lw_p9, List.forall_mem_cons.mpr ⟨lw_p10, List.forall_mem_cons.mpr ⟨lw_p11, List.forall_mem_cons.mpr ⟨lw_p12, List.forall_mem_cons.mpr ⟨lw_p13, List.forall_mem_cons.mpr ⟨lw_p14, List.forall_mem_cons.mpr ⟨lw_p15, fun _ h => absurd h List.not_mem_nil⟩⟩⟩⟩⟩⟩⟩⟩⟩⟩⟩⟩⟩⟩⟩⟩
theorem lw_p16 : lw_okq (⟨"OilMemoriesModel", "isName", "(I)Z"⟩, 23) := ⟨⟨by decide +kernel, by decide +kernel⟩, List.mem_of_getElem? (i := 707) (by decide +kernel), List.mem_of_getElem? (i := 828) (by decide +kernel), List.mem_of_getElem? (i := 829) (by decide +kernel)⟩
theorem lw_p17 : lw_okq (⟨"OilMemoriesModel", "step1", "(II)V"⟩, 23) := ⟨⟨by decide +kernel, by decide +kernel⟩, List.mem_of_getElem? (i := 707) (by decide +kernel), List.mem_of_getElem? (i := 832) (by decide +kernel), List.mem_of_getElem? (i := 833) (by decide +kernel)⟩
theorem lw_p18 : lw_okq (⟨"OilMemoriesModel", "opens", "()Z"⟩, 23) := ⟨⟨by decide +kernel, by decide +kernel⟩, List.mem_of_getElem? (i := 707) (by decide +kernel), List.mem_of_getElem? (i := 836) (by decide +kernel), List.mem_of_getElem? (i := 837) (by decide +kernel)⟩
theorem lw_p19 : lw_okq (⟨"OilMemoriesModel", "hasText", "(I)Z"⟩, 23) := ⟨⟨by decide +kernel, by decide +kernel⟩, List.mem_of_getElem? (i := 707) (by decide +kernel), List.mem_of_getElem? (i := 844) (by decide +kernel), List.mem_of_getElem? (i := 845) (by decide +kernel)⟩
theorem lw_p20 : lw_okq (⟨"OilMemoriesModel", "lays1", "(III)V"⟩, 23) := ⟨⟨by decide +kernel, by decide +kernel⟩, List.mem_of_getElem? (i := 707) (by decide +kernel), List.mem_of_getElem? (i := 855) (by decide +kernel), List.mem_of_getElem? (i := 856) (by decide +kernel)⟩
theorem lw_p21 : lw_okq (⟨"OilMemoriesModel", "isMemory", "(I)Z"⟩, 23) := ⟨⟨by decide +kernel, by decide +kernel⟩, List.mem_of_getElem? (i := 707) (by decide +kernel), List.mem_of_getElem? (i := 863) (by decide +kernel), List.mem_of_getElem? (i := 864) (by decide +kernel)⟩
theorem lw_p22 : lw_okq (⟨"OilMemoriesModel", "its", "(II)I"⟩, 23) := ⟨⟨by decide +kernel, by decide +kernel⟩, List.mem_of_getElem? (i := 707) (by decide +kernel), List.mem_of_getElem? (i := 867) (by decide +kernel), List.mem_of_getElem? (i := 868) (by decide +kernel)⟩
theorem lw_p23 : lw_okq (⟨"OilMemoriesModel", "lightBy", "(II)I"⟩, 23) := ⟨⟨by decide +kernel, by decide +kernel⟩, List.mem_of_getElem? (i := 707) (by decide +kernel), List.mem_of_getElem? (i := 871) (by decide +kernel), List.mem_of_getElem? (i := 872) (by decide +kernel)⟩
theorem lw_p24 : lw_okq (⟨"OilMemoriesModel", "burnsOf", "(II)I"⟩, 23) := ⟨⟨by decide +kernel, by decide +kernel⟩, List.mem_of_getElem? (i := 707) (by decide +kernel), List.mem_of_getElem? (i := 878) (by decide +kernel), List.mem_of_getElem? (i := 879) (by decide +kernel)⟩
theorem lw_p25 : lw_okq (⟨"OilMemoriesModel", "lightTold", "(III)I"⟩, 23) := ⟨⟨by decide +kernel, by decide +kernel⟩, List.mem_of_getElem? (i := 707) (by decide +kernel), List.mem_of_getElem? (i := 882) (by decide +kernel), List.mem_of_getElem? (i := 883) (by decide +kernel)⟩
theorem lw_p26 : lw_okq (⟨"OilMemoriesModel", "worked", "(I)I"⟩, 23) := ⟨⟨by decide +kernel, by decide +kernel⟩, List.mem_of_getElem? (i := 707) (by decide +kernel), List.mem_of_getElem? (i := 886) (by decide +kernel), List.mem_of_getElem? (i := 887) (by decide +kernel)⟩
theorem lw_p27 : lw_okq (⟨"OilMemoriesModel", "smokeOf", "(II)I"⟩, 23) := ⟨⟨by decide +kernel, by decide +kernel⟩, List.mem_of_getElem? (i := 707) (by decide +kernel), List.mem_of_getElem? (i := 896) (by decide +kernel), List.mem_of_getElem? (i := 897) (by decide +kernel)⟩
theorem lw_p28 : lw_okq (⟨"OilMemoriesModel", "change1", "(II)I"⟩, 23) := ⟨⟨by decide +kernel, by decide +kernel⟩, List.mem_of_getElem? (i := 707) (by decide +kernel), List.mem_of_getElem? (i := 904) (by decide +kernel), List.mem_of_getElem? (i := 905) (by decide +kernel)⟩
theorem lw_p29 : lw_okq (⟨"OilMemoriesModel", "wantedTold", "(III)I"⟩, 23) := ⟨⟨by decide +kernel, by decide +kernel⟩, List.mem_of_getElem? (i := 707) (by decide +kernel), List.mem_of_getElem? (i := 942) (by decide +kernel), List.mem_of_getElem? (i := 943) (by decide +kernel)⟩
theorem lw_p30 : lw_okq (⟨"OilMemoriesModel", "whyNot", "(II)I"⟩, 23) := ⟨⟨by decide +kernel, by decide +kernel⟩, List.mem_of_getElem? (i := 707) (by decide +kernel), List.mem_of_getElem? (i := 950) (by decide +kernel), List.mem_of_getElem? (i := 951) (by decide +kernel)⟩
theorem lw_p31 : lw_okq (⟨"OilMemoriesModel", "goes", "(I)I"⟩, 23) := ⟨⟨by decide +kernel, by decide +kernel⟩, List.mem_of_getElem? (i := 707) (by decide +kernel), List.mem_of_getElem? (i := 954) (by decide +kernel), List.mem_of_getElem? (i := 955) (by decide +kernel)⟩
def lw_privs_2 : List (MethodName × Nat) := [(⟨"OilMemoriesModel", "isName", "(I)Z"⟩, 23), (⟨"OilMemoriesModel", "step1", "(II)V"⟩, 23), (⟨"OilMemoriesModel", "opens", "()Z"⟩, 23), (⟨"OilMemoriesModel", "hasText", "(I)Z"⟩, 23), (⟨"OilMemoriesModel", "lays1", "(III)V"⟩, 23), (⟨"OilMemoriesModel", "isMemory", "(I)Z"⟩, 23), (⟨"OilMemoriesModel", "its", "(II)I"⟩, 23), (⟨"OilMemoriesModel", "lightBy", "(II)I"⟩, 23), (⟨"OilMemoriesModel", "burnsOf", "(II)I"⟩, 23), (⟨"OilMemoriesModel", "lightTold", "(III)I"⟩, 23), (⟨"OilMemoriesModel", "worked", "(I)I"⟩, 23), (⟨"OilMemoriesModel", "smokeOf", "(II)I"⟩, 23), (⟨"OilMemoriesModel", "change1", "(II)I"⟩, 23), (⟨"OilMemoriesModel", "wantedTold", "(III)I"⟩, 23), (⟨"OilMemoriesModel", "whyNot", "(II)I"⟩, 23), (⟨"OilMemoriesModel", "goes", "(I)I"⟩, 23)]
theorem lw_r2 : ∀ q ∈ lw_privs_2, lw_okq q := List.forall_mem_cons.mpr ⟨lw_p16, List.forall_mem_cons.mpr ⟨lw_p17, List.forall_mem_cons.mpr ⟨lw_p18, List.forall_mem_cons.mpr ⟨lw_p19, List.forall_mem_cons.mpr ⟨lw_p20, List.forall_mem_cons.mpr ⟨lw_p21, List.forall_mem_cons.mpr ⟨lw_p22, List.forall_mem_cons.mpr ⟨lw_p23, List.forall_mem_cons.mpr ⟨lw_p24, List.forall_mem_cons.mpr ⟨lw_p25, List.forall_mem_cons.mpr ⟨lw_p26, List.forall_mem_cons.mpr ⟨lw_p27, List.forall_mem_cons.mpr ⟨lw_p28, List.forall_mem_cons.mpr ⟨lw_p29, List.forall_mem_cons.mpr ⟨lw_p30, List.forall_mem_cons.mpr ⟨lw_p31, fun _ h => absurd h List.not_mem_nil⟩⟩⟩⟩⟩⟩⟩⟩⟩⟩⟩⟩⟩⟩⟩⟩
theorem lw_p32 : lw_okq (⟨"OilMemoriesModel", "aNight", "()Z"⟩, 23) := ⟨⟨by decide +kernel, by decide +kernel⟩, List.mem_of_getElem? (i := 707) (by decide +kernel), List.mem_of_getElem? (i := 958) (by decide +kernel), List.mem_of_getElem? (i := 959) (by decide +kernel)⟩
theorem lw_p33 : lw_okq (⟨"OilMemoriesModel", "tonightSet", "()I"⟩, 23) := ⟨⟨by decide +kernel, by decide +kernel⟩, List.mem_of_getElem? (i := 707) (by decide +kernel), List.mem_of_getElem? (i := 962) (by decide +kernel), List.mem_of_getElem? (i := 963) (by decide +kernel)⟩
theorem lw_p34 : lw_okq (⟨"OilMemoriesModel", "wanted", "()I"⟩, 23) := ⟨⟨by decide +kernel, by decide +kernel⟩, List.mem_of_getElem? (i := 707) (by decide +kernel), List.mem_of_getElem? (i := 966) (by decide +kernel), List.mem_of_getElem? (i := 967) (by decide +kernel)⟩
theorem lw_p35 : lw_okq (⟨"OilMemoriesModel", "givesBy", "(II)I"⟩, 23) := ⟨⟨by decide +kernel, by decide +kernel⟩, List.mem_of_getElem? (i := 707) (by decide +kernel), List.mem_of_getElem? (i := 970) (by decide +kernel), List.mem_of_getElem? (i := 971) (by decide +kernel)⟩
theorem lw_p36 : lw_okq (⟨"OilMemoriesModel", "weathers", "()V"⟩, 23) := ⟨⟨by decide +kernel, by decide +kernel⟩, List.mem_of_getElem? (i := 707) (by decide +kernel), List.mem_of_getElem? (i := 978) (by decide +kernel), List.mem_of_getElem? (i := 979) (by decide +kernel)⟩
theorem lw_p37 : lw_okq (⟨"OilMemoriesModel", "draw", "()I"⟩, 23) := ⟨⟨by decide +kernel, by decide +kernel⟩, List.mem_of_getElem? (i := 707) (by decide +kernel), List.mem_of_getElem? (i := 982) (by decide +kernel), List.mem_of_getElem? (i := 983) (by decide +kernel)⟩
theorem lw_p38 : lw_okq (⟨"OilMemoriesModel", "litNights", "()I"⟩, 23) := ⟨⟨by decide +kernel, by decide +kernel⟩, List.mem_of_getElem? (i := 707) (by decide +kernel), List.mem_of_getElem? (i := 999) (by decide +kernel), List.mem_of_getElem? (i := 1000) (by decide +kernel)⟩
theorem lw_p39 : lw_okq (⟨"OilMemoriesModel", "layDown", "()V"⟩, 23) := ⟨⟨by decide +kernel, by decide +kernel⟩, List.mem_of_getElem? (i := 707) (by decide +kernel), List.mem_of_getElem? (i := 1003) (by decide +kernel), List.mem_of_getElem? (i := 1004) (by decide +kernel)⟩
theorem lw_p40 : lw_okq (⟨"OilMemoriesModel", "layBack", "()V"⟩, 23) := ⟨⟨by decide +kernel, by decide +kernel⟩, List.mem_of_getElem? (i := 707) (by decide +kernel), List.mem_of_getElem? (i := 1007) (by decide +kernel), List.mem_of_getElem? (i := 1008) (by decide +kernel)⟩
theorem lw_p41 : lw_okq (⟨"OilMemoriesModel", "lacks", "(I)I"⟩, 23) := ⟨⟨by decide +kernel, by decide +kernel⟩, List.mem_of_getElem? (i := 707) (by decide +kernel), List.mem_of_getElem? (i := 1038) (by decide +kernel), List.mem_of_getElem? (i := 1039) (by decide +kernel)⟩
theorem lw_p42 : lw_okq (⟨"OilMemoriesModel", "areLeftSo", "(I)Z"⟩, 23) := ⟨⟨by decide +kernel, by decide +kernel⟩, List.mem_of_getElem? (i := 707) (by decide +kernel), List.mem_of_getElem? (i := 1045) (by decide +kernel), List.mem_of_getElem? (i := 1046) (by decide +kernel)⟩
theorem lw_p43 : lw_okq (⟨"OilMemoriesModel", "kindNow", "()I"⟩, 23) := ⟨⟨by decide +kernel, by decide +kernel⟩, List.mem_of_getElem? (i := 707) (by decide +kernel), List.mem_of_getElem? (i := 1053) (by decide +kernel), List.mem_of_getElem? (i := 1054) (by decide +kernel)⟩
theorem lw_p44 : lw_okq (⟨"OilMemoriesModel", "glowsAs", "(II)I"⟩, 23) := ⟨⟨by decide +kernel, by decide +kernel⟩, List.mem_of_getElem? (i := 707) (by decide +kernel), List.mem_of_getElem? (i := 1057) (by decide +kernel), List.mem_of_getElem? (i := 1058) (by decide +kernel)⟩
theorem lw_p45 : lw_okq (⟨"OilMemoriesModel", "starts", "(I)V"⟩, 23) := ⟨⟨by decide +kernel, by decide +kernel⟩, List.mem_of_getElem? (i := 707) (by decide +kernel), List.mem_of_getElem? (i := 1061) (by decide +kernel), List.mem_of_getElem? (i := 1062) (by decide +kernel)⟩
theorem lw_p46 : lw_okq (⟨"OilMemoriesModel", "turnsAs", "(II)I"⟩, 23) := ⟨⟨by decide +kernel, by decide +kernel⟩, List.mem_of_getElem? (i := 707) (by decide +kernel), List.mem_of_getElem? (i := 1065) (by decide +kernel), List.mem_of_getElem? (i := 1066) (by decide +kernel)⟩
theorem lw_p47 : lw_okq (⟨"OilMemoriesModel", "mNow", "()I"⟩, 23) := ⟨⟨by decide +kernel, by decide +kernel⟩, List.mem_of_getElem? (i := 707) (by decide +kernel), List.mem_of_getElem? (i := 1069) (by decide +kernel), List.mem_of_getElem? (i := 1070) (by decide +kernel)⟩
def lw_privs_3 : List (MethodName × Nat) := [(⟨"OilMemoriesModel", "aNight", "()Z"⟩, 23), (⟨"OilMemoriesModel", "tonightSet", "()I"⟩, 23), (⟨"OilMemoriesModel", "wanted", "()I"⟩, 23), (⟨"OilMemoriesModel", "givesBy", "(II)I"⟩, 23), (⟨"OilMemoriesModel", "weathers", "()V"⟩, 23), (⟨"OilMemoriesModel", "draw", "()I"⟩, 23), (⟨"OilMemoriesModel", "litNights", "()I"⟩, 23), (⟨"OilMemoriesModel", "layDown", "()V"⟩, 23), (⟨"OilMemoriesModel", "layBack", "()V"⟩, 23), (⟨"OilMemoriesModel", "lacks", "(I)I"⟩, 23), (⟨"OilMemoriesModel", "areLeftSo", "(I)Z"⟩, 23), (⟨"OilMemoriesModel", "kindNow", "()I"⟩, 23), (⟨"OilMemoriesModel", "glowsAs", "(II)I"⟩, 23), (⟨"OilMemoriesModel", "starts", "(I)V"⟩, 23), (⟨"OilMemoriesModel", "turnsAs", "(II)I"⟩, 23), (⟨"OilMemoriesModel", "mNow", "()I"⟩, 23)]
theorem lw_r3 : ∀ q ∈ lw_privs_3, lw_okq q := List.forall_mem_cons.mpr ⟨lw_p32, List.forall_mem_cons.mpr ⟨lw_p33, List.forall_mem_cons.mpr ⟨lw_p34, List.forall_mem_cons.mpr ⟨lw_p35, List.forall_mem_cons.mpr ⟨lw_p36, List.forall_mem_cons.mpr ⟨lw_p37, List.forall_mem_cons.mpr ⟨lw_p38, List.forall_mem_cons.mpr ⟨lw_p39, List.forall_mem_cons.mpr ⟨lw_p40, List.forall_mem_cons.mpr ⟨lw_p41, List.forall_mem_cons.mpr ⟨lw_p42, List.forall_mem_cons.mpr ⟨lw_p43, List.forall_mem_cons.mpr ⟨lw_p44, List.forall_mem_cons.mpr ⟨lw_p45, List.forall_mem_cons.mpr ⟨lw_p46, List.forall_mem_cons.mpr ⟨lw_p47, fun _ h => absurd h List.not_mem_nil⟩⟩⟩⟩⟩⟩⟩⟩⟩⟩⟩⟩⟩⟩⟩⟩
theorem lw_p48 : lw_okq (⟨"OilMemoriesModel", "guttersAs", "(II)I"⟩, 23) := ⟨⟨by decide +kernel, by decide +kernel⟩, List.mem_of_getElem? (i := 707) (by decide +kernel), List.mem_of_getElem? (i := 1073) (by decide +kernel), List.mem_of_getElem? (i := 1074) (by decide +kernel)⟩
theorem lw_p49 : lw_okq (⟨"OilMemoriesModel", "partsAs", "(II)I"⟩, 23) := ⟨⟨by decide +kernel, by decide +kernel⟩, List.mem_of_getElem? (i := 707) (by decide +kernel), List.mem_of_getElem? (i := 1077) (by decide +kernel), List.mem_of_getElem? (i := 1078) (by decide +kernel)⟩
def lw_privs_4 : List (MethodName × Nat) := [(⟨"OilMemoriesModel", "guttersAs", "(II)I"⟩, 23), (⟨"OilMemoriesModel", "partsAs", "(II)I"⟩, 23)]
theorem lw_r4 : ∀ q ∈ lw_privs_4, lw_okq q := List.forall_mem_cons.mpr ⟨lw_p48, List.forall_mem_cons.mpr ⟨lw_p49, fun _ h => absurd h List.not_mem_nil⟩⟩
def lw_privs : List (MethodName × Nat) := lw_privs_1 ++ (lw_privs_2 ++ (lw_privs_3 ++ (lw_privs_4)))
def lw_tbl : List Cond := k2_sels lw_privs ++ tables_1
theorem lw_privs_ok : ∀ q ∈ lw_privs, lw_okq q := by
  show ∀ q ∈ lw_privs_1 ++ (lw_privs_2 ++ (lw_privs_3 ++ (lw_privs_4))), lw_okq q
  exact List.forall_mem_append.mpr ⟨lw_r1, List.forall_mem_append.mpr ⟨lw_r2, List.forall_mem_append.mpr ⟨lw_r3, lw_r4⟩⟩⟩
end
section
def RX0 : String := "OilMemories$Choice"
def TX0 : u_T := fun k => match k with
  | 0 => ("OilMemories$Choice", "bits", "[I", true)
  | 1 => ("OilMemories$Choice", "gives", "[I", true)
  | 2 => ("OilMemories$Choice", "dears", "[I", true)
  | 3 => ("OilMemories$Choice", "sets", "I", false)
  | _ => ("OilMemories$Choice", "best", "I", false)
def tyX0 : Nat → FieldType := fun k => match k with
  | 0 => .array .int
  | 1 => .array .int
  | 2 => .array .int
  | 3 => .int
  | _ => .int
abbrev wsX00 : List Cond := u_ws RX0 TX0 5
theorem nmX0 : ∀ a, a < 5 → ∀ b, b < 5 → a ≠ b → (TX0 a).2.1 ≠ (TX0 b).2.1 := by decide +kernel
theorem tyX0_ok : ∀ k, k < 5 → parseFieldDescriptor (TX0 k).2.2.1 = some (tyX0 k) := by decide +kernel
abbrev cX0_init : ByteArray := prog_2_method_1_code
def yX0_init : MethodName := ⟨RX0, "<init>", "()V"⟩
abbrev cX0_find : ByteArray := prog_2_method_2_code
def yX0_find : MethodName := ⟨RX0, "find", "(LOilMemories$Tower;I)Z"⟩
abbrev cX0_joinToEach : ByteArray := prog_2_method_3_code
def yX0_joinToEach : MethodName := ⟨RX0, "joinToEach", "(III)V"⟩
abbrev cX0_takeLeastDear : ByteArray := prog_2_method_4_code
def yX0_takeLeastDear : MethodName := ⟨RX0, "takeLeastDear", "(I)V"⟩
abbrev cX0_foundSet : ByteArray := prog_2_method_5_code
def yX0_foundSet : MethodName := ⟨RX0, "foundSet", "()I"⟩
abbrev cX0_foundDear : ByteArray := prog_2_method_6_code
def yX0_foundDear : MethodName := ⟨RX0, "foundDear", "()I"⟩
abbrev cX0_foundGives : ByteArray := prog_2_method_7_code
def yX0_foundGives : MethodName := ⟨RX0, "foundGives", "()I"⟩
def RX1 : String := "OilMemories$Memory"
def TX1 : u_T := fun k => match k with
  | 0 => ("OilMemories$Memory", "kind", "I", false)
  | 1 => ("OilMemories$Memory", "number", "I", false)
  | 2 => ("OilMemories$Memory", "whose", "I", false)
  | 3 => ("OilMemories$Memory", "left", "I", false)
  | _ => ("OilMemories$Memory", "dear", "I", false)
def tyX1 : Nat → FieldType := fun k => match k with
  | 0 => .int
  | 1 => .int
  | 2 => .int
  | 3 => .int
  | _ => .int
abbrev wsX10 : List Cond := u_ws RX1 TX1 5
theorem nmX1 : ∀ a, a < 5 → ∀ b, b < 5 → a ≠ b → (TX1 a).2.1 ≠ (TX1 b).2.1 := by decide +kernel
theorem tyX1_ok : ∀ k, k < 5 → parseFieldDescriptor (TX1 k).2.2.1 = some (tyX1 k) := by decide +kernel
abbrev cX1_init : ByteArray := prog_3_method_1_code
def yX1_init : MethodName := ⟨RX1, "<init>", "()V"⟩
abbrev cX1_copyFrom : ByteArray := prog_3_method_2_code
def yX1_copyFrom : MethodName := ⟨RX1, "copyFrom", "(LOilMemories$Memory;)V"⟩
abbrev cX1_isOf : ByteArray := prog_3_method_3_code
def yX1_isOf : MethodName := ⟨RX1, "isOf", "(I)Z"⟩
abbrev cX1_burns : ByteArray := prog_3_method_4_code
def yX1_burns : MethodName := ⟨RX1, "burns", "(I)I"⟩
abbrev cX1_smoke : ByteArray := prog_3_method_5_code
def yX1_smoke : MethodName := ⟨RX1, "smoke", "(I)I"⟩
def RX2 : String := "OilMemories$Reader"
def TX2 : u_T := fun k => match k with
  | 0 => ("OilMemories$Reader", "draft", "LOilMemories$Text;", true)
  | 1 => ("OilMemories$Reader", "bytes", "LOilMemories$Row;", true)
  | 2 => ("OilMemories$Reader", "use", "I", false)
  | _ => ("OilMemories$Reader", "place", "I", false)
def tyX2 : Nat → FieldType := fun k => match k with
  | 0 => .object "OilMemories$Text"
  | 1 => .object "OilMemories$Row"
  | 2 => .int
  | _ => .int
abbrev wsX20 : List Cond := u_ws RX2 TX2 4
theorem nmX2 : ∀ a, a < 4 → ∀ b, b < 4 → a ≠ b → (TX2 a).2.1 ≠ (TX2 b).2.1 := by decide +kernel
theorem tyX2_ok : ∀ k, k < 4 → parseFieldDescriptor (TX2 k).2.2.1 = some (tyX2 k) := by decide +kernel
abbrev cX2_init : ByteArray := prog_4_method_1_code
def yX2_init : MethodName := ⟨RX2, "<init>", "()V"⟩
abbrev cX2_read : ByteArray := prog_4_method_2_code
def yX2_read : MethodName := ⟨RX2, "read", "(LOilMemories$Row;I)I"⟩
abbrev cX2_readChain : ByteArray := prog_4_method_3_code
def yX2_readChain : MethodName := ⟨RX2, "readChain", "(II)Z"⟩
abbrev cX2_readUnit : ByteArray := prog_4_method_4_code
def yX2_readUnit : MethodName := ⟨RX2, "readUnit", "(I)Z"⟩
abbrev cX2_readNot : ByteArray := prog_4_method_5_code
def yX2_readNot : MethodName := ⟨RX2, "readNot", "(I)Z"⟩
abbrev cX2_readBracketed : ByteArray := prog_4_method_6_code
def yX2_readBracketed : MethodName := ⟨RX2, "readBracketed", "(I)Z"⟩
abbrev cX2_readNumber : ByteArray := prog_4_method_7_code
def yX2_readNumber : MethodName := ⟨RX2, "readNumber", "()V"⟩
abbrev cX2_next : ByteArray := prog_4_method_8_code
def yX2_next : MethodName := ⟨RX2, "next", "()I"⟩
abbrev cX2_nameOf : ByteArray := prog_4_method_9_code
def yX2_nameOf : MethodName := ⟨RX2, "nameOf", "(I)I"⟩
abbrev cX2_levelOf : ByteArray := prog_4_method_10_code
def yX2_levelOf : MethodName := ⟨RX2, "levelOf", "(I)I"⟩
abbrev cX2_isDigit : ByteArray := prog_4_method_11_code
def yX2_isDigit : MethodName := ⟨RX2, "isDigit", "(I)Z"⟩
def RX3 : String := "OilMemories$Row"
def TX3 : u_T := fun k => match k with
  | 0 => ("OilMemories$Row", "values", "[I", true)
  | _ => ("OilMemories$Row", "filled", "I", false)
def tyX3 : Nat → FieldType := fun k => match k with
  | 0 => .array .int
  | _ => .int
abbrev wsX30 : List Cond := u_ws RX3 TX3 2
theorem nmX3 : ∀ a, a < 2 → ∀ b, b < 2 → a ≠ b → (TX3 a).2.1 ≠ (TX3 b).2.1 := by decide +kernel
theorem tyX3_ok : ∀ k, k < 2 → parseFieldDescriptor (TX3 k).2.2.1 = some (tyX3 k) := by decide +kernel
abbrev cX3_init : ByteArray := prog_5_method_1_code
def yX3_init : MethodName := ⟨RX3, "<init>", "(I)V"⟩
abbrev cX3_size : ByteArray := prog_5_method_2_code
def yX3_size : MethodName := ⟨RX3, "size", "()I"⟩
abbrev cX3_has : ByteArray := prog_5_method_3_code
def yX3_has : MethodName := ⟨RX3, "has", "(I)Z"⟩
abbrev cX3_at : ByteArray := prog_5_method_4_code
def yX3_at : MethodName := ⟨RX3, "at", "(I)I"⟩
abbrev cX3_add : ByteArray := prog_5_method_5_code
def yX3_add : MethodName := ⟨RX3, "add", "(I)Z"⟩
abbrev cX3_clear : ByteArray := prog_5_method_6_code
def yX3_clear : MethodName := ⟨RX3, "clear", "()V"⟩
abbrev cX3_copyFrom : ByteArray := prog_5_method_7_code
def yX3_copyFrom : MethodName := ⟨RX3, "copyFrom", "(LOilMemories$Row;)V"⟩
def RX4 : String := "OilMemories$Sheet"
def TX4 : u_T := fun k => match k with
  | 0 => ("OilMemories$Sheet", "numbers", "[I", true)
  | 1 => ("OilMemories$Sheet", "bits", "I", false)
  | _ => ("OilMemories$Sheet", "size", "I", false)
def tyX4 : Nat → FieldType := fun k => match k with
  | 0 => .array .int
  | 1 => .int
  | _ => .int
abbrev wsX40 : List Cond := u_ws RX4 TX4 3
theorem nmX4 : ∀ a, a < 3 → ∀ b, b < 3 → a ≠ b → (TX4 a).2.1 ≠ (TX4 b).2.1 := by decide +kernel
theorem tyX4_ok : ∀ k, k < 3 → parseFieldDescriptor (TX4 k).2.2.1 = some (tyX4 k) := by decide +kernel
abbrev cX4_init : ByteArray := prog_6_method_1_code
def yX4_init : MethodName := ⟨RX4, "<init>", "()V"⟩
abbrev cX4_isMissing : ByteArray := prog_6_method_2_code
def yX4_isMissing : MethodName := ⟨RX4, "isMissing", "()Z"⟩
abbrev cX4_remake : ByteArray := prog_6_method_3_code
def yX4_remake : MethodName := ⟨RX4, "remake", "(II)V"⟩
abbrev cX4_has : ByteArray := prog_6_method_4_code
def yX4_has : MethodName := ⟨RX4, "has", "(I)Z"⟩
abbrev cX4_hasRun : ByteArray := prog_6_method_5_code
def yX4_hasRun : MethodName := ⟨RX4, "hasRun", "(II)Z"⟩
abbrev cX4_at : ByteArray := prog_6_method_6_code
def yX4_at : MethodName := ⟨RX4, "at", "(I)I"⟩
abbrev cX4_write : ByteArray := prog_6_method_7_code
def yX4_write : MethodName := ⟨RX4, "write", "(II)V"⟩
abbrev cX4_take : ByteArray := prog_6_method_8_code
def yX4_take : MethodName := ⟨RX4, "take", "(LOilMemories$Sheet;III)V"⟩
def RX5 : String := "OilMemories$Text"
def TX5 : u_T := fun k => match k with
  | 0 => ("OilMemories$Text", "use", "I", true)
  | 1 => ("OilMemories$Text", "codes", "LOilMemories$Row;", true)
  | _ => ("OilMemories$Text", "stack", "[I", true)
def tyX5 : Nat → FieldType := fun k => match k with
  | 0 => .int
  | 1 => .object "OilMemories$Row"
  | _ => .array .int
abbrev wsX50 : List Cond := u_ws RX5 TX5 3
theorem nmX5 : ∀ a, a < 3 → ∀ b, b < 3 → a ≠ b → (TX5 a).2.1 ≠ (TX5 b).2.1 := by decide +kernel
theorem tyX5_ok : ∀ k, k < 3 → parseFieldDescriptor (TX5 k).2.2.1 = some (tyX5 k) := by decide +kernel
abbrev cX5_init : ByteArray := prog_7_method_1_code
def yX5_init : MethodName := ⟨RX5, "<init>", "(I)V"⟩
abbrev cX5_clear : ByteArray := prog_7_method_2_code
def yX5_clear : MethodName := ⟨RX5, "clear", "()V"⟩
abbrev cX5_copyFrom : ByteArray := prog_7_method_3_code
def yX5_copyFrom : MethodName := ⟨RX5, "copyFrom", "(LOilMemories$Text;)V"⟩
abbrev cX5_gives : ByteArray := prog_7_method_4_code
def yX5_gives : MethodName := ⟨RX5, "gives", "(III)I"⟩
abbrev cX5_held : ByteArray := prog_7_method_5_code
def yX5_held : MethodName := ⟨RX5, "held", "(I)I"⟩
abbrev cX5_joined : ByteArray := prog_7_method_6_code
def yX5_joined : MethodName := ⟨RX5, "joined", "(III)I"⟩
def RX6 : String := "OilMemories$Tower"
def TX6 : u_T := fun k => match k with
  | 0 => ("OilMemories$Tower", "memories", "[LOilMemories$Memory;", true)
  | 1 => ("OilMemories$Tower", "lightText", "LOilMemories$Text;", true)
  | 2 => ("OilMemories$Tower", "wantedText", "LOilMemories$Text;", true)
  | 3 => ("OilMemories$Tower", "count", "I", false)
  | 4 => ("OilMemories$Tower", "weather", "I", false)
  | 5 => ("OilMemories$Tower", "night", "I", false)
  | 6 => ("OilMemories$Tower", "dark", "I", false)
  | _ => ("OilMemories$Tower", "z", "I", false)
def tyX6 : Nat → FieldType := fun k => match k with
  | 0 => .array (.object "OilMemories$Memory")
  | 1 => .object "OilMemories$Text"
  | 2 => .object "OilMemories$Text"
  | 3 => .int
  | 4 => .int
  | 5 => .int
  | 6 => .int
  | _ => .int
abbrev wsX60 : List Cond := u_ws RX6 TX6 8
theorem nmX6 : ∀ a, a < 8 → ∀ b, b < 8 → a ≠ b → (TX6 a).2.1 ≠ (TX6 b).2.1 := by decide +kernel
theorem tyX6_ok : ∀ k, k < 8 → parseFieldDescriptor (TX6 k).2.2.1 = some (tyX6 k) := by decide +kernel
abbrev cX6_init : ByteArray := prog_8_method_1_code
def yX6_init : MethodName := ⟨RX6, "<init>", "()V"⟩
abbrev cX6_copyFrom : ByteArray := prog_8_method_2_code
def yX6_copyFrom : MethodName := ⟨RX6, "copyFrom", "(LOilMemories$Tower;)V"⟩
abbrev cX6_isFull : ByteArray := prog_8_method_3_code
def yX6_isFull : MethodName := ⟨RX6, "isFull", "()Z"⟩
abbrev cX6_at : ByteArray := prog_8_method_4_code
def yX6_at : MethodName := ⟨RX6, "at", "(I)LOilMemories$Memory;"⟩
abbrev cX6_textOf : ByteArray := prog_8_method_5_code
def yX6_textOf : MethodName := ⟨RX6, "textOf", "(I)LOilMemories$Text;"⟩
abbrev cX6_add : ByteArray := prog_8_method_6_code
def yX6_add : MethodName := ⟨RX6, "add", "(III)I"⟩
abbrev cX6_light : ByteArray := prog_8_method_7_code
def yX6_light : MethodName := ⟨RX6, "light", "(LOilMemories$Memory;)I"⟩
abbrev cX6_gives : ByteArray := prog_8_method_8_code
def yX6_gives : MethodName := ⟨RX6, "gives", "(LOilMemories$Memory;)I"⟩
abbrev cX6_wanted : ByteArray := prog_8_method_9_code
def yX6_wanted : MethodName := ⟨RX6, "wanted", "()I"⟩
abbrev cX6_keepersWithOil : ByteArray := prog_8_method_10_code
def yX6_keepersWithOil : MethodName := ⟨RX6, "keepersWithOil", "()I"⟩
abbrev cX6_passNight : ByteArray := prog_8_method_11_code
def yX6_passNight : MethodName := ⟨RX6, "passNight", "(LOilMemories$Choice;I)Z"⟩
abbrev cX6_burn : ByteArray := prog_8_method_12_code
def yX6_burn : MethodName := ⟨RX6, "burn", "(I)V"⟩
abbrev cX6_drawTheDay : ByteArray := prog_8_method_13_code
def yX6_drawTheDay : MethodName := ⟨RX6, "drawTheDay", "()V"⟩
abbrev cX6_draw : ByteArray := prog_8_method_14_code
def yX6_draw : MethodName := ⟨RX6, "draw", "()I"⟩
def RX7 : String := "OilMemories$Voices"
def TX7 : u_T := fun k => match k with
  | 0 => ("OilMemories$Voices", "trace", "LOilMemories$Row;", true)
  | 1 => ("OilMemories$Voices", "kind", "I", false)
  | 2 => ("OilMemories$Voices", "m", "I", false)
  | 3 => ("OilMemories$Voices", "k", "I", false)
  | _ => ("OilMemories$Voices", "parted", "Z", false)
def tyX7 : Nat → FieldType := fun k => match k with
  | 0 => .object "OilMemories$Row"
  | 1 => .int
  | 2 => .int
  | 3 => .int
  | _ => .boolean
abbrev wsX70 : List Cond := u_ws RX7 TX7 5
theorem nmX7 : ∀ a, a < 5 → ∀ b, b < 5 → a ≠ b → (TX7 a).2.1 ≠ (TX7 b).2.1 := by decide +kernel
theorem tyX7_ok : ∀ k, k < 5 → parseFieldDescriptor (TX7 k).2.2.1 = some (tyX7 k) := by decide +kernel
abbrev cX7_init : ByteArray := prog_9_method_1_code
def yX7_init : MethodName := ⟨RX7, "<init>", "()V"⟩
abbrev cX7_speak : ByteArray := prog_9_method_2_code
def yX7_speak : MethodName := ⟨RX7, "speak", "(LOilMemories$Memory;III)I"⟩
abbrev cX7_glow : ByteArray := prog_9_method_3_code
def yX7_glow : MethodName := ⟨RX7, "glow", "(I)I"⟩
abbrev cX7_turn : ByteArray := prog_9_method_4_code
def yX7_turn : MethodName := ⟨RX7, "turn", "(I)I"⟩
abbrev cX7_turnAsEvening : ByteArray := prog_9_method_5_code
def yX7_turnAsEvening : MethodName := ⟨RX7, "turnAsEvening", "(I)I"⟩
abbrev cX7_gutter : ByteArray := prog_9_method_6_code
def yX7_gutter : MethodName := ⟨RX7, "gutter", "(I)I"⟩
abbrev cX7_gutterAsEvening : ByteArray := prog_9_method_7_code
def yX7_gutterAsEvening : MethodName := ⟨RX7, "gutterAsEvening", "(I)I"⟩
abbrev cX7_part : ByteArray := prog_9_method_8_code
def yX7_part : MethodName := ⟨RX7, "part", "(I)I"⟩
def RX8 : String := "OilMemories"
def TX8 : u_T := fun k => match k with
  | 0 => ("OilMemories", "tower", "LOilMemories$Tower;", true)
  | 1 => ("OilMemories", "keptTower", "LOilMemories$Tower;", true)
  | 2 => ("OilMemories", "thought", "LOilMemories$Tower;", true)
  | 3 => ("OilMemories", "choice", "LOilMemories$Choice;", true)
  | 4 => ("OilMemories", "tape", "LOilMemories$Row;", true)
  | 5 => ("OilMemories", "keptTape", "LOilMemories$Row;", true)
  | 6 => ("OilMemories", "waiting", "LOilMemories$Row;", true)
  | 7 => ("OilMemories", "keptWaiting", "LOilMemories$Row;", true)
  | 8 => ("OilMemories", "reader", "LOilMemories$Reader;", true)
  | 9 => ("OilMemories", "voices", "LOilMemories$Voices;", true)
  | 10 => ("OilMemories", "sheets", "[LOilMemories$Sheet;", true)
  | 11 => ("OilMemories", "refusals", "[I", true)
  | _ => ("OilMemories", "images", "I", false)
def tyX8 : Nat → FieldType := fun k => match k with
  | 0 => .object "OilMemories$Tower"
  | 1 => .object "OilMemories$Tower"
  | 2 => .object "OilMemories$Tower"
  | 3 => .object "OilMemories$Choice"
  | 4 => .object "OilMemories$Row"
  | 5 => .object "OilMemories$Row"
  | 6 => .object "OilMemories$Row"
  | 7 => .object "OilMemories$Row"
  | 8 => .object "OilMemories$Reader"
  | 9 => .object "OilMemories$Voices"
  | 10 => .array (.object "OilMemories$Sheet")
  | 11 => .array .int
  | _ => .int
abbrev wsX80 : List Cond := u_ws RX8 TX8 13
theorem nmX8 : ∀ a, a < 13 → ∀ b, b < 13 → a ≠ b → (TX8 a).2.1 ≠ (TX8 b).2.1 := by decide +kernel
theorem tyX8_ok : ∀ k, k < 13 → parseFieldDescriptor (TX8 k).2.2.1 = some (tyX8 k) := by decide +kernel
abbrev cX8_init : ByteArray := prog_1_method_1_code
def yX8_init : MethodName := ⟨RX8, "<init>", "()V"⟩
abbrev cX8_memory : ByteArray := prog_1_method_2_code
def yX8_memory : MethodName := ⟨RX8, "memory", "(III)I"⟩
abbrev cX8_memoryIs : ByteArray := prog_1_method_3_code
def yX8_memoryIs : MethodName := ⟨RX8, "memoryIs", "(II)I"⟩
abbrev cX8_become : ByteArray := prog_1_method_4_code
def yX8_become : MethodName := ⟨RX8, "become", "(II)I"⟩
abbrev cX8_as : ByteArray := prog_1_method_5_code
def yX8_as : MethodName := ⟨RX8, "as", "(II)I"⟩
abbrev cX8_fills : ByteArray := prog_1_method_6_code
def yX8_fills : MethodName := ⟨RX8, "fills", "(II)I"⟩
abbrev cX8_dear : ByteArray := prog_1_method_7_code
def yX8_dear : MethodName := ⟨RX8, "dear", "(II)I"⟩
abbrev cX8_trim : ByteArray := prog_1_method_8_code
def yX8_trim : MethodName := ⟨RX8, "trim", "(II)I"⟩
abbrev cX8_tells : ByteArray := prog_1_method_9_code
def yX8_tells : MethodName := ⟨RX8, "tells", "(II)I"⟩
abbrev cX8_blows : ByteArray := prog_1_method_10_code
def yX8_blows : MethodName := ⟨RX8, "blows", "(I)I"⟩
abbrev cX8_feed : ByteArray := prog_1_method_11_code
def yX8_feed : MethodName := ⟨RX8, "feed", "(JI)I"⟩
abbrev cX8_text : ByteArray := prog_1_method_12_code
def yX8_text : MethodName := ⟨RX8, "text", "(I)I"⟩
abbrev cX8_untell : ByteArray := prog_1_method_13_code
def yX8_untell : MethodName := ⟨RX8, "untell", "(I)I"⟩
abbrev cX8_law : ByteArray := prog_1_method_14_code
def yX8_law : MethodName := ⟨RX8, "law", "(IIII)I"⟩
abbrev cX8_nights : ByteArray := prog_1_method_15_code
def yX8_nights : MethodName := ⟨RX8, "nights", "(I)I"⟩
abbrev cX8_loose : ByteArray := prog_1_method_16_code
def yX8_loose : MethodName := ⟨RX8, "loose", "(I)I"⟩
abbrev cX8_seed : ByteArray := prog_1_method_17_code
def yX8_seed : MethodName := ⟨RX8, "seed", "(I)I"⟩
abbrev cX8_tonight : ByteArray := prog_1_method_18_code
def yX8_tonight : MethodName := ⟨RX8, "tonight", "(I)I"⟩
abbrev cX8_lasts : ByteArray := prog_1_method_19_code
def yX8_lasts : MethodName := ⟨RX8, "lasts", "()I"⟩
abbrev cX8_without : ByteArray := prog_1_method_20_code
def yX8_without : MethodName := ⟨RX8, "without", "(I)I"⟩
abbrev cX8_then : ByteArray := prog_1_method_21_code
def yX8_then : MethodName := ⟨RX8, "then", "(II)I"⟩
abbrev cX8_has : ByteArray := prog_1_method_22_code
def yX8_has : MethodName := ⟨RX8, "has", "(I)I"⟩
abbrev cX8_mixes : ByteArray := prog_1_method_23_code
def yX8_mixes : MethodName := ⟨RX8, "mixes", "(II)I"⟩
abbrev cX8_odds : ByteArray := prog_1_method_24_code
def yX8_odds : MethodName := ⟨RX8, "odds", "(I)I"⟩
abbrev cX8_fits : ByteArray := prog_1_method_25_code
def yX8_fits : MethodName := ⟨RX8, "fits", "(I)I"⟩
abbrev cX8_voice : ByteArray := prog_1_method_26_code
def yX8_voice : MethodName := ⟨RX8, "voice", "(III)I"⟩
abbrev cX8_body : ByteArray := prog_1_method_27_code
def yX8_body : MethodName := ⟨RX8, "body", "(I)I"⟩
abbrev cX8_sheet : ByteArray := prog_1_method_28_code
def yX8_sheet : MethodName := ⟨RX8, "sheet", "(III)I"⟩
abbrev cX8_put : ByteArray := prog_1_method_29_code
def yX8_put : MethodName := ⟨RX8, "put", "(III)I"⟩
abbrev cX8_move : ByteArray := prog_1_method_30_code
def yX8_move : MethodName := ⟨RX8, "move", "(IIIII)I"⟩
abbrev cX8_dears : ByteArray := prog_1_method_31_code
def yX8_dears : MethodName := ⟨RX8, "dears", "(I)I"⟩
abbrev cX8_judge : ByteArray := prog_1_method_32_code
def yX8_judge : MethodName := ⟨RX8, "judge", "(I)I"⟩
abbrev cX8_image : ByteArray := prog_1_method_33_code
def yX8_image : MethodName := ⟨RX8, "image", "()I"⟩
abbrev cX8_restore : ByteArray := prog_1_method_34_code
def yX8_restore : MethodName := ⟨RX8, "restore", "()I"⟩
abbrev cX8_tell : ByteArray := prog_1_method_35_code
def yX8_tell : MethodName := ⟨RX8, "tell", "(I)I"⟩
abbrev cX8_check : ByteArray := prog_1_method_36_code
def yX8_check : MethodName := ⟨RX8, "check", "()I"⟩
abbrev cX8_count : ByteArray := prog_1_method_37_code
def yX8_count : MethodName := ⟨RX8, "count", "(I)I"⟩
abbrev cX8_told : ByteArray := prog_1_method_38_code
def yX8_told : MethodName := ⟨RX8, "told", "(I)I"⟩
abbrev cX8_refuse : ByteArray := prog_1_method_39_code
def yX8_refuse : MethodName := ⟨RX8, "refuse", "(I)I"⟩
abbrev cX8_sheetAt : ByteArray := prog_1_method_40_code
def yX8_sheetAt : MethodName := ⟨RX8, "sheetAt", "(I)LOilMemories$Sheet;"⟩
abbrev cX8_litNightsAhead : ByteArray := prog_1_method_41_code
def yX8_litNightsAhead : MethodName := ⟨RX8, "litNightsAhead", "(I)I"⟩
abbrev cX8_tellsWhatIsLeft : ByteArray := prog_1_method_42_code
def yX8_tellsWhatIsLeft : MethodName := ⟨RX8, "tellsWhatIsLeft", "(LOilMemories$Sheet;LOilMemories$Tower;)Z"⟩
abbrev cX8_inLowestTerms : ByteArray := prog_1_method_43_code
def yX8_inLowestTerms : MethodName := ⟨RX8, "inLowestTerms", "(II)I"⟩
abbrev cX8_isWithin : ByteArray := prog_1_method_44_code
def yX8_isWithin : MethodName := ⟨RX8, "isWithin", "(III)Z"⟩
abbrev cX8_isKeeper : ByteArray := prog_1_method_45_code
def yX8_isKeeper : MethodName := ⟨RX8, "isKeeper", "(I)Z"⟩
abbrev cX8_isKindAndNumber : ByteArray := prog_1_method_46_code
def yX8_isKindAndNumber : MethodName := ⟨RX8, "isKindAndNumber", "(I)Z"⟩
def RX9 : String := "OilMemoriesModel"
def TX9 : u_T := fun k => match k with
  | 0 => ("OilMemoriesModel", "s", "[I", true)
  | 1 => ("OilMemoriesModel", "kept", "[I", true)
  | 2 => ("OilMemoriesModel", "laid", "[I", true)
  | 3 => ("OilMemoriesModel", "images", "I", false)
  | 4 => ("OilMemoriesModel", "errors", "[I", true)
  | 5 => ("OilMemoriesModel", "spared", "I", false)
  | 6 => ("OilMemoriesModel", "at", "I", false)
  | 7 => ("OilMemoriesModel", "open", "I", false)
  | 8 => ("OilMemoriesModel", "steps", "I", false)
  | 9 => ("OilMemoriesModel", "use", "I", false)
  | 10 => ("OilMemoriesModel", "step", "[I", true)
  | 11 => ("OilMemoriesModel", "named", "[I", true)
  | 12 => ("OilMemoriesModel", "pile", "[I", true)
  | 13 => ("OilMemoriesModel", "givesAll", "[I", true)
  | 14 => ("OilMemoriesModel", "dearAll", "[I", true)
  | 15 => ("OilMemoriesModel", "traced", "I", false)
  | 16 => ("OilMemoriesModel", "trace", "[I", true)
  | 17 => ("OilMemoriesModel", "speaks", "I", false)
  | 18 => ("OilMemoriesModel", "isParted", "Z", false)
  | 19 => ("OilMemoriesModel", "bits", "[I", true)
  | 20 => ("OilMemoriesModel", "sizes", "[I", true)
  | 21 => ("OilMemoriesModel", "number", "[I", true)
  | _ => ("OilMemoriesModel", "aside", "[I", true)
def tyX9 : Nat → FieldType := fun k => match k with
  | 0 => .array .int
  | 1 => .array .int
  | 2 => .array .int
  | 3 => .int
  | 4 => .array .int
  | 5 => .int
  | 6 => .int
  | 7 => .int
  | 8 => .int
  | 9 => .int
  | 10 => .array .int
  | 11 => .array .int
  | 12 => .array .int
  | 13 => .array .int
  | 14 => .array .int
  | 15 => .int
  | 16 => .array .int
  | 17 => .int
  | 18 => .boolean
  | 19 => .array .int
  | 20 => .array .int
  | 21 => .array .int
  | _ => .array .int
abbrev wsX90 : List Cond := u_ws RX9 TX9 23
theorem nmX9 : ∀ a, a < 23 → ∀ b, b < 23 → a ≠ b → (TX9 a).2.1 ≠ (TX9 b).2.1 := by decide +kernel
theorem tyX9_ok : ∀ k, k < 23 → parseFieldDescriptor (TX9 k).2.2.1 = some (tyX9 k) := by decide +kernel
abbrev cX9_init : ByteArray := prog_11_method_1_code
def yX9_init : MethodName := ⟨RX9, "<init>", "()V"⟩
abbrev cX9_error : ByteArray := prog_11_method_2_code
def yX9_error : MethodName := ⟨RX9, "error", "(I)I"⟩
abbrev cX9_in : ByteArray := prog_11_method_3_code
def yX9_in : MethodName := ⟨RX9, "in", "(III)Z"⟩
abbrev cX9_held : ByteArray := prog_11_method_4_code
def yX9_held : MethodName := ⟨RX9, "held", "(III)I"⟩
abbrev cX9_copyAll : ByteArray := prog_11_method_5_code
def yX9_copyAll : MethodName := ⟨RX9, "copyAll", "([I[I)V"⟩
abbrev cX9_layDown : ByteArray := prog_11_method_6_code
def yX9_layDown : MethodName := ⟨RX9, "layDown", "()V"⟩
abbrev cX9_layBack : ByteArray := prog_11_method_7_code
def yX9_layBack : MethodName := ⟨RX9, "layBack", "()V"⟩
abbrev cX9_isMemory : ByteArray := prog_11_method_8_code
def yX9_isMemory : MethodName := ⟨RX9, "isMemory", "(I)Z"⟩
abbrev cX9_isKeeper : ByteArray := prog_11_method_9_code
def yX9_isKeeper : MethodName := ⟨RX9, "isKeeper", "(I)Z"⟩
abbrev cX9_its : ByteArray := prog_11_method_10_code
def yX9_its : MethodName := ⟨RX9, "its", "(II)I"⟩
abbrev cX9_lays1 : ByteArray := prog_11_method_11_code
def yX9_lays1 : MethodName := ⟨RX9, "lays1", "(III)V"⟩
abbrev cX9_change1 : ByteArray := prog_11_method_12_code
def yX9_change1 : MethodName := ⟨RX9, "change1", "(II)I"⟩
abbrev cX9_manyIn : ByteArray := prog_11_method_13_code
def yX9_manyIn : MethodName := ⟨RX9, "manyIn", "(I)I"⟩
abbrev cX9_feed : ByteArray := prog_11_method_14_code
def yX9_feed : MethodName := ⟨RX9, "feed", "(JI)I"⟩
abbrev cX9_look : ByteArray := prog_11_method_15_code
def yX9_look : MethodName := ⟨RX9, "look", "()I"⟩
abbrev cX9_isName : ByteArray := prog_11_method_16_code
def yX9_isName : MethodName := ⟨RX9, "isName", "(I)Z"⟩
abbrev cX9_step1 : ByteArray := prog_11_method_17_code
def yX9_step1 : MethodName := ⟨RX9, "step1", "(II)V"⟩
abbrev cX9_whole : ByteArray := prog_11_method_18_code
def yX9_whole : MethodName := ⟨RX9, "whole", "()Z"⟩
abbrev cX9_both : ByteArray := prog_11_method_19_code
def yX9_both : MethodName := ⟨RX9, "both", "()Z"⟩
abbrev cX9_compared : ByteArray := prog_11_method_20_code
def yX9_compared : MethodName := ⟨RX9, "compared", "()Z"⟩
abbrev cX9_sum : ByteArray := prog_11_method_21_code
def yX9_sum : MethodName := ⟨RX9, "sum", "()Z"⟩
abbrev cX9_product : ByteArray := prog_11_method_22_code
def yX9_product : MethodName := ⟨RX9, "product", "()Z"⟩
abbrev cX9_opens : ByteArray := prog_11_method_23_code
def yX9_opens : MethodName := ⟨RX9, "opens", "()Z"⟩
abbrev cX9_one : ByteArray := prog_11_method_24_code
def yX9_one : MethodName := ⟨RX9, "one", "()Z"⟩
abbrev cX9_hasText : ByteArray := prog_11_method_25_code
def yX9_hasText : MethodName := ⟨RX9, "hasText", "(I)Z"⟩
abbrev cX9_text : ByteArray := prog_11_method_26_code
def yX9_text : MethodName := ⟨RX9, "text", "(I)I"⟩
abbrev cX9_untell : ByteArray := prog_11_method_27_code
def yX9_untell : MethodName := ⟨RX9, "untell", "(I)I"⟩
abbrev cX9_joined : ByteArray := prog_11_method_28_code
def yX9_joined : MethodName := ⟨RX9, "joined", "(III)I"⟩
abbrev cX9_worked : ByteArray := prog_11_method_29_code
def yX9_worked : MethodName := ⟨RX9, "worked", "(I)I"⟩
abbrev cX9_burnsOf : ByteArray := prog_11_method_30_code
def yX9_burnsOf : MethodName := ⟨RX9, "burnsOf", "(II)I"⟩
abbrev cX9_smokeOf : ByteArray := prog_11_method_31_code
def yX9_smokeOf : MethodName := ⟨RX9, "smokeOf", "(II)I"⟩
abbrev cX9_lightTold : ByteArray := prog_11_method_32_code
def yX9_lightTold : MethodName := ⟨RX9, "lightTold", "(III)I"⟩
abbrev cX9_wantedTold : ByteArray := prog_11_method_33_code
def yX9_wantedTold : MethodName := ⟨RX9, "wantedTold", "(III)I"⟩
abbrev cX9_lightBy : ByteArray := prog_11_method_34_code
def yX9_lightBy : MethodName := ⟨RX9, "lightBy", "(II)I"⟩
abbrev cX9_givesBy : ByteArray := prog_11_method_35_code
def yX9_givesBy : MethodName := ⟨RX9, "givesBy", "(II)I"⟩
abbrev cX9_wanted : ByteArray := prog_11_method_36_code
def yX9_wanted : MethodName := ⟨RX9, "wanted", "()I"⟩
abbrev cX9_tonightSet : ByteArray := prog_11_method_37_code
def yX9_tonightSet : MethodName := ⟨RX9, "tonightSet", "()I"⟩
abbrev cX9_aNight : ByteArray := prog_11_method_38_code
def yX9_aNight : MethodName := ⟨RX9, "aNight", "()Z"⟩
abbrev cX9_goes : ByteArray := prog_11_method_39_code
def yX9_goes : MethodName := ⟨RX9, "goes", "(I)I"⟩
abbrev cX9_draw : ByteArray := prog_11_method_40_code
def yX9_draw : MethodName := ⟨RX9, "draw", "()I"⟩
abbrev cX9_isKind : ByteArray := prog_11_method_41_code
def yX9_isKind : MethodName := ⟨RX9, "isKind", "(I)Z"⟩
abbrev cX9_memory : ByteArray := prog_11_method_42_code
def yX9_memory : MethodName := ⟨RX9, "memory", "(III)I"⟩
abbrev cX9_memoryIs : ByteArray := prog_11_method_43_code
def yX9_memoryIs : MethodName := ⟨RX9, "memoryIs", "(II)I"⟩
abbrev cX9_become : ByteArray := prog_11_method_44_code
def yX9_become : MethodName := ⟨RX9, "become", "(II)I"⟩
abbrev cX9_as : ByteArray := prog_11_method_45_code
def yX9_as : MethodName := ⟨RX9, "as", "(II)I"⟩
abbrev cX9_fills : ByteArray := prog_11_method_46_code
def yX9_fills : MethodName := ⟨RX9, "fills", "(II)I"⟩
abbrev cX9_dear : ByteArray := prog_11_method_47_code
def yX9_dear : MethodName := ⟨RX9, "dear", "(II)I"⟩
abbrev cX9_trim : ByteArray := prog_11_method_48_code
def yX9_trim : MethodName := ⟨RX9, "trim", "(II)I"⟩
abbrev cX9_tells : ByteArray := prog_11_method_49_code
def yX9_tells : MethodName := ⟨RX9, "tells", "(II)I"⟩
abbrev cX9_blows : ByteArray := prog_11_method_50_code
def yX9_blows : MethodName := ⟨RX9, "blows", "(I)I"⟩
abbrev cX9_law : ByteArray := prog_11_method_51_code
def yX9_law : MethodName := ⟨RX9, "law", "(IIII)I"⟩
abbrev cX9_whyNot : ByteArray := prog_11_method_52_code
def yX9_whyNot : MethodName := ⟨RX9, "whyNot", "(II)I"⟩
abbrev cX9_nights : ByteArray := prog_11_method_53_code
def yX9_nights : MethodName := ⟨RX9, "nights", "(I)I"⟩
abbrev cX9_weathers : ByteArray := prog_11_method_54_code
def yX9_weathers : MethodName := ⟨RX9, "weathers", "()V"⟩
abbrev cX9_loose : ByteArray := prog_11_method_55_code
def yX9_loose : MethodName := ⟨RX9, "loose", "(I)I"⟩
abbrev cX9_seed : ByteArray := prog_11_method_56_code
def yX9_seed : MethodName := ⟨RX9, "seed", "(I)I"⟩
abbrev cX9_tonight : ByteArray := prog_11_method_57_code
def yX9_tonight : MethodName := ⟨RX9, "tonight", "(I)I"⟩
abbrev cX9_litNights : ByteArray := prog_11_method_58_code
def yX9_litNights : MethodName := ⟨RX9, "litNights", "()I"⟩
abbrev cX9_lasts : ByteArray := prog_11_method_59_code
def yX9_lasts : MethodName := ⟨RX9, "lasts", "()I"⟩
abbrev cX9_without : ByteArray := prog_11_method_60_code
def yX9_without : MethodName := ⟨RX9, "without", "(I)I"⟩
abbrev cX9_then : ByteArray := prog_11_method_61_code
def yX9_then : MethodName := ⟨RX9, "then", "(II)I"⟩
abbrev cX9_has : ByteArray := prog_11_method_62_code
def yX9_has : MethodName := ⟨RX9, "has", "(I)I"⟩
abbrev cX9_mixes : ByteArray := prog_11_method_63_code
def yX9_mixes : MethodName := ⟨RX9, "mixes", "(II)I"⟩
abbrev cX9_divisor : ByteArray := prog_11_method_64_code
def yX9_divisor : MethodName := ⟨RX9, "divisor", "(II)I"⟩
abbrev cX9_odds : ByteArray := prog_11_method_65_code
def yX9_odds : MethodName := ⟨RX9, "odds", "(I)I"⟩
abbrev cX9_areLeftSo : ByteArray := prog_11_method_66_code
def yX9_areLeftSo : MethodName := ⟨RX9, "areLeftSo", "(I)Z"⟩
abbrev cX9_fits : ByteArray := prog_11_method_67_code
def yX9_fits : MethodName := ⟨RX9, "fits", "(I)I"⟩
abbrev cX9_starts : ByteArray := prog_11_method_68_code
def yX9_starts : MethodName := ⟨RX9, "starts", "(I)V"⟩
abbrev cX9_above : ByteArray := prog_11_method_69_code
def yX9_above : MethodName := ⟨RX9, "above", "(I)I"⟩
abbrev cX9_kindNow : ByteArray := prog_11_method_70_code
def yX9_kindNow : MethodName := ⟨RX9, "kindNow", "()I"⟩
abbrev cX9_mNow : ByteArray := prog_11_method_71_code
def yX9_mNow : MethodName := ⟨RX9, "mNow", "()I"⟩
abbrev cX9_glowsAs : ByteArray := prog_11_method_72_code
def yX9_glowsAs : MethodName := ⟨RX9, "glowsAs", "(II)I"⟩
abbrev cX9_turnsAs : ByteArray := prog_11_method_73_code
def yX9_turnsAs : MethodName := ⟨RX9, "turnsAs", "(II)I"⟩
abbrev cX9_guttersAs : ByteArray := prog_11_method_74_code
def yX9_guttersAs : MethodName := ⟨RX9, "guttersAs", "(II)I"⟩
abbrev cX9_partsAs : ByteArray := prog_11_method_75_code
def yX9_partsAs : MethodName := ⟨RX9, "partsAs", "(II)I"⟩
abbrev cX9_voice : ByteArray := prog_11_method_76_code
def yX9_voice : MethodName := ⟨RX9, "voice", "(III)I"⟩
abbrev cX9_body : ByteArray := prog_11_method_77_code
def yX9_body : MethodName := ⟨RX9, "body", "(I)I"⟩
abbrev cX9_isSheet : ByteArray := prog_11_method_78_code
def yX9_isSheet : MethodName := ⟨RX9, "isSheet", "(I)Z"⟩
abbrev cX9_sheet : ByteArray := prog_11_method_79_code
def yX9_sheet : MethodName := ⟨RX9, "sheet", "(III)I"⟩
abbrev cX9_put : ByteArray := prog_11_method_80_code
def yX9_put : MethodName := ⟨RX9, "put", "(III)I"⟩
abbrev cX9_move : ByteArray := prog_11_method_81_code
def yX9_move : MethodName := ⟨RX9, "move", "(IIIII)I"⟩
abbrev cX9_lacks : ByteArray := prog_11_method_82_code
def yX9_lacks : MethodName := ⟨RX9, "lacks", "(I)I"⟩
abbrev cX9_dears : ByteArray := prog_11_method_83_code
def yX9_dears : MethodName := ⟨RX9, "dears", "(I)I"⟩
abbrev cX9_judge : ByteArray := prog_11_method_84_code
def yX9_judge : MethodName := ⟨RX9, "judge", "(I)I"⟩
abbrev cX9_image : ByteArray := prog_11_method_85_code
def yX9_image : MethodName := ⟨RX9, "image", "()I"⟩
abbrev cX9_restore : ByteArray := prog_11_method_86_code
def yX9_restore : MethodName := ⟨RX9, "restore", "()I"⟩
abbrev cX9_tell : ByteArray := prog_11_method_87_code
def yX9_tell : MethodName := ⟨RX9, "tell", "(I)I"⟩
abbrev cX9_check : ByteArray := prog_11_method_88_code
def yX9_check : MethodName := ⟨RX9, "check", "()I"⟩
abbrev cX9_count : ByteArray := prog_11_method_89_code
def yX9_count : MethodName := ⟨RX9, "count", "(I)I"⟩
abbrev cX9_told : ByteArray := prog_11_method_90_code
def yX9_told : MethodName := ⟨RX9, "told", "(I)I"⟩
def RJ6 : String := "java/lang/Integer"
def TJ6 : u_T := fun k => match k with
  | _ => ("", "", "", false)
def tyJ6 : Nat → FieldType := fun k => match k with
  | _ => .int
abbrev wsJ60 : List Cond := u_ws RJ6 TJ6 0
theorem nmJ6 : ∀ a, a < 0 → ∀ b, b < 0 → a ≠ b → (TJ6 a).2.1 ≠ (TJ6 b).2.1 := by decide +kernel
theorem tyJ6_ok : ∀ k, k < 0 → parseFieldDescriptor (TJ6 k).2.2.1 = some (tyJ6 k) := by decide +kernel
abbrev cJ6_bitCount_0f7a4 : ByteArray := prog_12_method_49_code
def yJ6_bitCount_0f7a4 : MethodName := ⟨RJ6, "bitCount", "(I)I"⟩
def RJ9 : String := "java/lang/Math"
def TJ9 : u_T := fun k => match k with
  | _ => ("", "", "", false)
def tyJ9 : Nat → FieldType := fun k => match k with
  | _ => .int
abbrev wsJ90 : List Cond := u_ws RJ9 TJ9 0
theorem nmJ9 : ∀ a, a < 0 → ∀ b, b < 0 → a ≠ b → (TJ9 a).2.1 ≠ (TJ9 b).2.1 := by decide +kernel
theorem tyJ9_ok : ∀ k, k < 0 → parseFieldDescriptor (TJ9 k).2.2.1 = some (tyJ9 k) := by decide +kernel
abbrev cJ9_min_7cf53 : ByteArray := prog_13_method_69_code
def yJ9_min_7cf53 : MethodName := ⟨RJ9, "min", "(II)I"⟩
def RL : String := "OilMemoriesLaw"
abbrev cL_law : ByteArray := code
def yL_law : MethodName := ⟨RL, "law", "([I)Z"⟩
abbrev vwCl : List vw_C := [(RX0, TX0, 5), (RX1, TX1, 5), (RX2, TX2, 4), (RX3, TX3, 2), (RX4, TX4, 3), (RX5, TX5, 3), (RX6, TX6, 8), (RX7, TX7, 5), (RX8, TX8, 13), (RX9, TX9, 23)]
end
section
/-- the words that stay: those that every method may lean on -/
def om_tbl : List Cond := lw_tbl.filter goodWord
theorem om_mem {i : Nat} {w : Cond} (h : lw_tbl[i]? = some w) (g : goodWord w = true) : w ∈ om_tbl := List.mem_filter.mpr ⟨List.mem_of_getElem? h, g⟩
theorem om_good : GoodIn om_tbl om_tbl := fun w h => ⟨h, good_of_word (List.mem_filter.mp h).2⟩
theorem om_sub {w : Cond} (h : w ∈ om_tbl) : w ∈ lw_tbl := (List.mem_filter.mp h).1
end
section
/-! ===== the walked machine: a store of ints, references that stay, cells by number ===== -/
abbrev om_S : Type := Nat → Nat → Int32
abbrev om_R : Type := Nat → Nat → Option Nat
abbrev om_V : Type := Int32 ⊕ Int64 ⊕ Option Nat
abbrev vI (x : Int32) : om_V := Sum.inl x
abbrev vL (x : Int64) : om_V := Sum.inr (Sum.inl x)
abbrev vR (r : Option Nat) : om_V := Sum.inr (Sum.inr r)
def om_w (σ : om_S) (k j : Nat) (v : Int32) : om_S := fun a b => if a = k ∧ b = j then v else σ a b
def om_wr (ρ : om_R) (k j : Nat) (v : Option Nat) : om_R := fun a b => if a = k ∧ b = j then v else ρ a b
def om_z (σ : om_S) (k : Nat) : om_S := fun a b => if a = k then 0 else σ a b
def om_zr (ρ : om_R) (k : Nat) : om_R := fun a b => if a = k then none else ρ a b
def om_sh : List (Nat × Nat) := [(8, 13), (6, 8), (21, 9), (5, 3), (3, 2), (20, 60), (20, 60), (5, 3), (3, 2), (20, 60), (20, 60), (1, 5), (1, 5), (1, 5), (1, 5), (1, 5), (1, 5), (1, 5), (1, 5), (1, 5), (6, 8), (21, 9), (5, 3), (3, 2), (20, 60), (20, 60), (5, 3), (3, 2), (20, 60), (20, 60), (1, 5), (1, 5), (1, 5), (1, 5), (1, 5), (1, 5), (1, 5), (1, 5), (1, 5), (6, 8), (21, 9), (5, 3), (3, 2), (20, 60), (20, 60), (5, 3), (3, 2), (20, 60), (20, 60), (1, 5), (1, 5), (1, 5), (1, 5), (1, 5), (1, 5), (1, 5), (1, 5), (1, 5), (0, 5), (20, 512), (20, 512), (20, 512), (3, 2), (20, 60), (3, 2), (20, 60), (3, 2), (20, 24), (3, 2), (20, 24), (2, 4), (5, 3), (3, 2), (20, 60), (20, 60), (3, 2), (20, 60), (7, 5), (3, 2), (20, 30), (22, 4), (20, 7), (4, 3), (20, 24), (4, 3), (20, 24), (4, 3), (20, 24), (4, 3), (20, 24), (9, 23), (20, 387), (20, 387), (20, 53), (20, 7), (20, 124), (20, 128), (20, 64), (20, 512), (20, 512), (20, 30), (20, 4), (20, 4), (20, 96), (20, 24)]
def om_kc (k : Nat) : Nat := (om_sh.getD k (99, 0)).1
def om_al (k : Nat) : Nat := (om_sh.getD k (99, 0)).2
def om_rl : List (List (Option Nat)) := [[some 1, some 20, some 39, some 58, some 62, some 64, some 66, some 68, some 70, some 77, some 80, some 81, none], [some 2, some 3, some 7, none, none, none, none, none], [some 11, some 12, some 13, some 14, some 15, some 16, some 17, some 18, some 19], [none, some 4, some 6], [some 5, none], [], [], [none, some 8, some 10], [some 9, none], [], [], [none, none, none, none, none], [none, none, none, none, none], [none, none, none, none, none], [none, none, none, none, none], [none, none, none, none, none], [none, none, none, none, none], [none, none, none, none, none], [none, none, none, none, none], [none, none, none, none, none], [some 21, some 22, some 26, none, none, none, none, none], [some 30, some 31, some 32, some 33, some 34, some 35, some 36, some 37, some 38], [none, some 23, some 25], [some 24, none], [], [], [none, some 27, some 29], [some 28, none], [], [], [none, none, none, none, none], [none, none, none, none, none], [none, none, none, none, none], [none, none, none, none, none], [none, none, none, none, none], [none, none, none, none, none], [none, none, none, none, none], [none, none, none, none, none], [none, none, none, none, none], [some 40, some 41, some 45, none, none, none, none, none], [some 49, some 50, some 51, some 52, some 53, some 54, some 55, some 56, some 57], [none, some 42, some 44], [some 43, none], [], [], [none, some 46, some 48], [some 47, none], [], [], [none, none, none, none, none], [none, none, none, none, none], [none, none, none, none, none], [none, none, none, none, none], [none, none, none, none, none], [none, none, none, none, none], [none, none, none, none, none], [none, none, none, none, none], [none, none, none, none, none], [some 59, some 60, some 61, none, none], [], [], [], [some 63, none], [], [some 65, none], [], [some 67, none], [], [some 69, none], [], [some 71, some 75, none, none], [none, some 72, some 74], [some 73, none], [], [], [some 76, none], [], [some 78, none, none, none, none], [some 79, none], [], [some 82, some 84, some 86, some 88], [], [some 83, none, none], [], [some 85, none, none], [], [some 87, none, none], [], [some 89, none, none], [], [some 91, some 92, some 93, none, some 94, none, none, none, none, none, some 95, some 96, some 97, some 98, some 99, none, some 100, none, none, some 101, some 102, some 103, some 104], [], [], [], [], [], [], [], [], [], [], [], [], [], []]
def om_rf : om_R := fun k j => (om_rl.getD k []).getD j none
def om_nf (c : Nat) : Nat := ([5, 5, 4, 2, 3, 3, 8, 5, 13, 23] : List Nat).getD c 0
def om_isr (c j : Nat) : Bool := (([[true, true, true, false, false], [false, false, false, false, false], [true, true, false, false], [true, false], [true, false, false], [false, true, true], [true, true, true, false, false, false, false, false], [true, false, false, false, false], [true, true, true, true, true, true, true, true, true, true, true, true, false], [true, true, true, false, true, false, false, false, false, false, true, true, true, true, true, false, true, false, false, true, true, true, true]] : List (List Bool)).getD c []).getD j false
def om_N : Nat := 105
def om_ka (j : Nat) : Int32 := ([-1, 0, 0, 0, 1, 2, 0] : List Int32).getD j 0
abbrev om_in (i : Int32) (n : Nat) : Prop := ¬ (i < 0 ∨ n ≤ i.toNatClampNeg)
theorem om_len : om_sh.length = om_N := rfl
theorem om_lt {k c : Nat} (h : om_kc k = c) (hc : c ≠ 99) : k < om_N := by
  refine Nat.not_le.mp fun q => hc ?_
  rw [← h]
  unfold om_kc
  rw [List.getD_eq_getElem?_getD, List.getElem?_eq_none (by rw [om_len]; exact q)]
  rfl
/-- the run: layouts, the heap at the law's start, the array classes, where the table of kinds lies, the script -/
abbrev om_G : Type := va_G × Heap × (ClassId × ClassId × ClassId) × Nat × Nat × Nat × (Nat → Int32)
def om_ad (G : om_G) (k : Nat) : Nat := if k = 900 then G.2.2.2.1 else if k = 901 then G.2.2.2.2.1 else G.2.1.size + k
def om_cv (G : om_G) : om_V → Value
  | .inl x => .int x
  | .inr (.inl x) => .long x
  | .inr (.inr r) => va_rf (r.map (om_ad G))
def om_fs (G : om_G) (σ : om_S) (ρ : om_R) (c k : Nat) : List Value := (List.range (om_nf c)).map fun j => if om_isr c j = true then va_rf ((ρ k j).map (om_ad G)) else .int (σ k j)
def om_rs (G : om_G) (ρ : om_R) (k : Nat) : Nat → Option Nat := fun j => if j < om_al k then (ρ k j).map (om_ad G) else none
def om_ent (G : om_G) (σ : om_S) (ρ : om_R) (k : Nat) : va_E :=
  if om_kc k = 20 then .inl (G.2.2.1.1, om_al k, .inl (σ k))
  else if om_kc k = 21 then .inl (G.2.2.1.2.1, om_al k, .inr (.inr (.inr (.inr (om_rs G ρ k)))))
  else if om_kc k = 22 then .inl (G.2.2.1.2.2, om_al k, .inr (.inr (.inr (.inr (om_rs G ρ k)))))
  else .inr (om_kc k, om_fs G σ ρ (om_kc k) k)
def om_ws (G : om_G) (σ : om_S) (ρ : om_R) (n : Nat) : va_W := (List.range n).map fun k => (om_ad G k, om_ent G σ ρ k)
def om_A (G : om_G) : Nat → Prop := fun q => G.2.1.size ≤ q
def om_tys (G : om_G) : List (ClassId × FieldType) := [(G.2.2.1.1, .int), (G.2.2.1.2.1, .object "OilMemories$Memory"), (G.2.2.1.2.2, .object "OilMemories$Sheet")]
def om_Rep (G : om_G) (σ : om_S) (ρ : om_R) (n : Nat) (H : Heap) : Prop :=
  va_P G.1 vwCl (om_ws G σ ρ n) H ∧ va_D (om_A G) (om_ws G σ ρ n) ∧ H.size = G.2.1.size + n ∧ n ≤ om_N ∧ ∀ q : Nat, q < G.2.1.size → H[q]? = G.2.1[q]?

def om_Nw (U : State) : Prop := va_Nw (Cond.methodLinkNest RX6 45 yX1_init RX8) U ∧ va_Nw (Cond.methodLinkNest RX8 24 yX0_init RX8) U ∧ va_Nw (Cond.methodLinkNest RX8 49 yX2_init RX8) U ∧ va_Nw (Cond.methodLinkNest RX8 56 yX7_init RX8) U ∧ va_Nw (Cond.methodLinkNest RX8 75 yX4_init RX8) U ∧ va_Nw (Cond.fieldLinkNest RX1 27 RX8 "KIND_ABOVE" "[I" RX8) U
def om_Kn (G : om_G) (U : State) : Prop := va_K G.1 vwCl (om_tys G) U ∧ va_Z "OilMemories" "KIND_ABOVE" "[I" (.ref G.2.2.2.1) (om_A G) U G.2.1 ∧ va_T .int G.2.2.2.1 7 (fun j => .int (om_ka j)) (om_A G) U G.2.1 ∧ va_AO "OilMemories$Memory" U ∧ va_AO "OilMemories$Sheet" U ∧ om_Nw U
theorem om_Nw.warm {s U : State} (hW : s.WarmedH U.vm) (h : om_Nw s) : om_Nw U := by
  obtain ⟨h0, h1, h2, h3, h4, h5⟩ := h
  exact ⟨va_Nw.warmM hW h0, va_Nw.warmM hW h1, va_Nw.warmM hW h2, va_Nw.warmM hW h3, va_Nw.warmM hW h4, va_Nw.warmF hW h5⟩
theorem om_Nw.same {u U : State} (hW : u.vm = U.vm) (h : om_Nw u) : om_Nw U := by
  obtain ⟨h0, h1, h2, h3, h4, h5⟩ := h
  exact ⟨va_Nw.same rfl hW h0, va_Nw.same rfl hW h1, va_Nw.same rfl hW h2, va_Nw.same rfl hW h3, va_Nw.same rfl hW h4, va_Nw.same rfl hW h5⟩
theorem om_Kn.warm {G : om_G} {s U : State} (hW : s.WarmedH U.vm) (h : om_Kn G s) : om_Kn G U :=
  ⟨va_K.moved hW.alike h.1, va_Z.moved hW.alike h.2.1, va_T.moved hW.alike h.2.2.1, va_AO.moved hW.alike h.2.2.2.1, va_AO.moved hW.alike h.2.2.2.2.1, om_Nw.warm hW h.2.2.2.2.2⟩
theorem om_Kn.calling {G : om_G} {U : State} (g : JFrame) (mk : MethodId) (a : Array Value) (h : om_Kn G U) : om_Kn G (U.calling g mk a) :=
  ⟨va_K.moved (u := U) (U := U.calling g mk a) (Vm.Alike.refl U.vm) h.1, va_Z.moved (u := U) (U := U.calling g mk a) (Vm.Alike.refl U.vm) h.2.1, va_T.moved (u := U) (U := U.calling g mk a) (Vm.Alike.refl U.vm) h.2.2.1, va_AO.moved (u := U) (U := U.calling g mk a) (Vm.Alike.refl U.vm) h.2.2.2.1, va_AO.moved (u := U) (U := U.calling g mk a) (Vm.Alike.refl U.vm) h.2.2.2.2.1, om_Nw.same (u := U) (U := U.calling g mk a) rfl h.2.2.2.2.2⟩
-- the world as a list
theorem om_adN {G : om_G} {k : Nat} (h : k < om_N) : om_ad G k = G.2.1.size + k := by
  unfold om_ad
  have h2 : k < 105 := h
  rw [if_neg (by omega), if_neg (by omega)]
theorem om_ws_at {G : om_G} {σ : om_S} {ρ : om_R} {n k : Nat} (h : k < n) : (om_ws G σ ρ n)[k]? = some (om_ad G k, om_ent G σ ρ k) := by
  unfold om_ws
  rw [List.getElem?_map, List.getElem?_range h]
  rfl
theorem om_ws_len {G : om_G} {σ : om_S} {ρ : om_R} {n : Nat} : (om_ws G σ ρ n).length = n := by simp [om_ws]
theorem om_ent_o {G : om_G} {σ : om_S} {ρ : om_R} {k c : Nat} (h : om_kc k = c) (hc : c < 20) : om_ent G σ ρ k = .inr (c, om_fs G σ ρ c k) := by
  unfold om_ent
  rw [h, if_neg (by omega), if_neg (by omega), if_neg (by omega)]
theorem om_ent_i {G : om_G} {σ : om_S} {ρ : om_R} {k : Nat} (h : om_kc k = 20) : om_ent G σ ρ k = .inl (G.2.2.1.1, om_al k, .inl (σ k)) := by
  unfold om_ent
  rw [if_pos h]
theorem om_ent_m {G : om_G} {σ : om_S} {ρ : om_R} {k : Nat} (h : om_kc k = 21) : om_ent G σ ρ k = .inl (G.2.2.1.2.1, om_al k, .inr (.inr (.inr (.inr (om_rs G ρ k))))) := by
  unfold om_ent
  rw [h, if_neg (by omega), if_pos rfl]
theorem om_ent_s {G : om_G} {σ : om_S} {ρ : om_R} {k : Nat} (h : om_kc k = 22) : om_ent G σ ρ k = .inl (G.2.2.1.2.2, om_al k, .inr (.inr (.inr (.inr (om_rs G ρ k))))) := by
  unfold om_ent
  rw [h, if_neg (by omega), if_neg (by omega), if_pos rfl]
theorem om_fs_i {G : om_G} {σ : om_S} {ρ : om_R} {c k j : Nat} (hj : j < om_nf c) (hi : om_isr c j = false) : (om_fs G σ ρ c k)[j]? = some (.int (σ k j)) := by
  unfold om_fs
  rw [List.getElem?_map, List.getElem?_range hj]
  simp [hi]
theorem om_fs_r {G : om_G} {σ : om_S} {ρ : om_R} {c k j : Nat} (hj : j < om_nf c) (hi : om_isr c j = true) : (om_fs G σ ρ c k)[j]? = some (va_rf ((ρ k j).map (om_ad G))) := by
  unfold om_fs
  rw [List.getElem?_map, List.getElem?_range hj]
  simp [hi]
theorem om_fs_len {G : om_G} {σ : om_S} {ρ : om_R} {c k : Nat} : (om_fs G σ ρ c k).length = om_nf c := by simp [om_fs]
theorem om_w_off {σ : om_S} {k j a : Nat} {v : Int32} (h : a ≠ k) : om_w σ k j v a = σ a := by
  funext b
  unfold om_w
  rw [if_neg (fun q => h q.1)]
theorem om_wr_off {ρ : om_R} {k j a : Nat} {v : Option Nat} (h : a ≠ k) : om_wr ρ k j v a = ρ a := by
  funext b
  unfold om_wr
  rw [if_neg (fun q => h q.1)]
theorem om_ent_off {G : om_G} {σ σ' : om_S} {ρ ρ' : om_R} {k : Nat} (h : σ' k = σ k) (h2 : ρ' k = ρ k) : om_ent G σ' ρ' k = om_ent G σ ρ k := by
  unfold om_ent om_fs om_rs
  rw [h, h2]
theorem om_ws_set {G : om_G} {σ σ' : om_S} {ρ ρ' : om_R} {n k : Nat} {e : va_E} (hk : k < n) (h : ∀ a, a ≠ k → σ' a = σ a) (h2 : ∀ a, a ≠ k → ρ' a = ρ a) (he : om_ent G σ' ρ' k = e) : (om_ws G σ ρ n).set k (om_ad G k, e) = om_ws G σ' ρ' n := by
  apply List.ext_getElem?
  intro i
  by_cases hi : i < n
  · rw [om_ws_at hi]
    by_cases hik : i = k
    · subst hik
      rw [List.getElem?_set_self (by rw [om_ws_len]; exact hi), he]
    · rw [List.getElem?_set_ne (Ne.symm hik), om_ws_at hi, om_ent_off (h i hik) (h2 i hik)]
  · rw [List.getElem?_eq_none (by simp [om_ws_len]; omega), List.getElem?_eq_none (by rw [om_ws_len]; omega)]
theorem om_fs_put {G : om_G} {σ : om_S} {ρ : om_R} {c k j : Nat} {v : Int32} (hi : om_isr c j = false) : om_fs G (om_w σ k j v) ρ c k = (om_fs G σ ρ c k).set j (.int v) := by
  apply List.ext_getElem?
  intro i
  by_cases h : i < om_nf c
  · by_cases hij : i = j
    · subst hij
      rw [List.getElem?_set_self (by rw [om_fs_len]; exact h), om_fs_i h hi]
      simp [om_w]
    · rw [List.getElem?_set_ne (Ne.symm hij)]
      unfold om_fs
      rw [List.getElem?_map, List.getElem?_map, List.getElem?_range h]
      simp [om_w, hij]
  · rw [List.getElem?_eq_none (by rw [om_fs_len]; omega), List.getElem?_eq_none (by rw [List.length_set, om_fs_len]; omega)]
theorem om_fs_putR {G : om_G} {σ : om_S} {ρ : om_R} {c k j : Nat} {v : Option Nat} (hi : om_isr c j = true) : om_fs G σ (om_wr ρ k j v) c k = (om_fs G σ ρ c k).set j (va_rf (v.map (om_ad G))) := by
  apply List.ext_getElem?
  intro i
  by_cases h : i < om_nf c
  · by_cases hij : i = j
    · subst hij
      rw [List.getElem?_set_self (by rw [om_fs_len]; exact h), om_fs_r h hi]
      simp [om_wr]
    · rw [List.getElem?_set_ne (Ne.symm hij)]
      unfold om_fs
      rw [List.getElem?_map, List.getElem?_map, List.getElem?_range h]
      simp [om_wr, hij]
  · rw [List.getElem?_eq_none (by rw [om_fs_len]; omega), List.getElem?_eq_none (by rw [List.length_set, om_fs_len]; omega)]
-- the judgement
abbrev om_X : Type := om_G × Program × Launch × Env × Room × State × MethodId × Array Value × List Frame × Method × Code × Nat × (State → Prop)
def om_J : om_X → Nat → List (Nat × om_V) → List om_V → om_S → om_R → Nat → Nat → Nat → Prop
  | (G, p, l, e, R, s, m, args, below, meth, c, nL, Z), pc, lv, st, σ, ρ, n, cells, slots =>
    ∀ (H : Heap) (locs : List Loc) (ls : Array Slot), om_Rep G σ ρ n H → (∀ q ∈ locs, om_A G q.base) → lv_has ls nL (lv.map fun q => (q.1, om_cv G q.2)) → W p l e R s m args below meth c H locs cells slots Z (F0 m pc ls (st.map (om_cv G)))
def om_Ok : om_X → String → String → ByteArray → Nat → Option FieldType → Nat → Nat → Nat → Prop
  | (G, p, _, _, R, s, m, args, _, meth, c, nL, _), own, nm, cc, nL', ret, k, mc, ms =>
    p.tables.exec = Jvm.exec ∧ c.code = cc ∧ c.maxLocals = nL ∧ nL = nL' ∧ meth.sig.returnType = ret ∧ meth.locks = false ∧ meth.name = nm ∧ s.vm.findClass own = some m.cls ∧ (∀ w ∈ om_tbl, w.before args s = true) ∧ om_Kn G s ∧ k ≤ R.frames ∧ 40 * k ≤ R.locals ∧ mc ≤ R.cells ∧ ms ≤ R.slots
def om_Q (G : om_G) (v : Option om_V) (σ : om_S) (ρ : om_R) (n : Nat) : Array Value → State → Outcome → State → Prop := fun _ _ o t => o = .returned (v.map (om_cv G)) ∧ om_Rep G σ ρ n t.heap
def om_End : om_X → Option om_V → om_S → om_R → Nat → Nat → Nat → Prop
  | (G, _, _, _, _, s, _, args, below, _, _, _, Z), v, σ, ρ, n, mc, ms => Z = MQ below (om_Q G v σ ρ n) args s mc ms (om_A G)
theorem om_S0 {G : om_G} {σ : om_S} {ρ : om_R} {n : Nat} {H : Heap} {locs : List Loc} (h : om_Rep G σ ρ n H) (hL : ∀ q ∈ locs, om_A G q.base) : va_S (om_A G) G.2.1 H locs :=
  ⟨by rw [h.2.2.1]; exact Nat.le_add_right _ _, fun q h1 _ => h.2.2.2.2 q h1, hL⟩
theorem om_Rep.put {G : om_G} {σ σ' : om_S} {ρ ρ' : om_R} {n k : Nat} {e : va_E} {H H1 : Heap} {locs1 : List Loc} (h : om_Rep G σ ρ n H) (hz : H1.size = H.size) (hk : k < n) (ho : ∀ a, a ≠ k → σ' a = σ a) (ho2 : ∀ a, a ≠ k → ρ' a = ρ a) (he : om_ent G σ' ρ' k = e)
    (hP : va_P G.1 vwCl ((om_ws G σ ρ n).set k (om_ad G k, e)) H1) (hD : va_D (om_A G) ((om_ws G σ ρ n).set k (om_ad G k, e))) (hS : va_S (om_A G) G.2.1 H1 locs1) : om_Rep G σ' ρ' n H1 := by
  rw [om_ws_set hk ho ho2 he] at hP hD
  exact ⟨hP, hD, by rw [hz]; exact h.2.2.1, h.2.2.2.1, fun q hq => hS.2.1 q hq (Nat.not_le.mpr hq)⟩

theorem om_iconst {x : om_X} {own nm : String} {cc : ByteArray} {nL k mc ms : Nat} {ret : Option FieldType} (O : om_Ok x own nm cc nL ret k mc ms) {pc : Nat} {lv : List (Nat × om_V)} {st : List om_V} {σ : om_S} {ρ : om_R} {n cells slots : Nat} {z : Int} {v : Int32} (hd : decode cc pc = .ok (.iconst z, 1)) (hv : Int32.ofInt z = v) (K : om_J x (pc + 1) (lv) (vI v :: st) σ ρ n cells slots) : om_J x (pc) (lv) (st) σ ρ n cells slots := by
  obtain ⟨G, p, l, e, R, s, m, args, below, meth, c, nL1, Z⟩ := x
  obtain ⟨hx, hb, hml, hnL, hr, hlk, hnm, hown, hts, hK, hfr, hlo, hmc, hms⟩ := O
  intro H locs ls hP hL hl
  exact lv_iconst hx hb hd hv (K H locs ls hP hL hl)
theorem om_bipush {x : om_X} {own nm : String} {cc : ByteArray} {nL k mc ms : Nat} {ret : Option FieldType} (O : om_Ok x own nm cc nL ret k mc ms) {pc : Nat} {lv : List (Nat × om_V)} {st : List om_V} {σ : om_S} {ρ : om_R} {n cells slots : Nat} {z : Int} {v : Int32} (hd : decode cc pc = .ok (.bipush z, 2)) (hv : (Int8.ofInt z).toInt32 = v) (K : om_J x (pc + 2) (lv) (vI v :: st) σ ρ n cells slots) : om_J x (pc) (lv) (st) σ ρ n cells slots := by
  obtain ⟨G, p, l, e, R, s, m, args, below, meth, c, nL1, Z⟩ := x
  obtain ⟨hx, hb, hml, hnL, hr, hlk, hnm, hown, hts, hK, hfr, hlo, hmc, hms⟩ := O
  intro H locs ls hP hL hl
  exact lv_bipush hx hb hd hv (K H locs ls hP hL hl)
theorem om_sipush {x : om_X} {own nm : String} {cc : ByteArray} {nL k mc ms : Nat} {ret : Option FieldType} (O : om_Ok x own nm cc nL ret k mc ms) {pc : Nat} {lv : List (Nat × om_V)} {st : List om_V} {σ : om_S} {ρ : om_R} {n cells slots : Nat} {z : Int} {v : Int32} (hd : decode cc pc = .ok (.sipush z, 3)) (hv : (Int16.ofInt z).toInt32 = v) (K : om_J x (pc + 3) (lv) (vI v :: st) σ ρ n cells slots) : om_J x (pc) (lv) (st) σ ρ n cells slots := by
  obtain ⟨G, p, l, e, R, s, m, args, below, meth, c, nL1, Z⟩ := x
  obtain ⟨hx, hb, hml, hnL, hr, hlk, hnm, hown, hts, hK, hfr, hlo, hmc, hms⟩ := O
  intro H locs ls hP hL hl
  exact lv_sipush hx hb hd hv (K H locs ls hP hL hl)
theorem om_ldc {x : om_X} {own nm : String} {cc : ByteArray} {nL k mc ms : Nat} {ret : Option FieldType} (O : om_Ok x own nm cc nL ret k mc ms) {pc : Nat} {lv : List (Nat × om_V)} {st : List om_V} {σ : om_S} {ρ : om_R} {n cells slots : Nat} {index : Nat} {v : Int32} (hw : Cond.constant own index v ∈ om_tbl) (hd : decode cc pc = .ok (.ldc index, 2)) (K : om_J x (pc + 2) (lv) (vI v :: st) σ ρ n cells slots) : om_J x (pc) (lv) (st) σ ρ n cells slots := by
  obtain ⟨G, p, l, e, R, s, m, args, below, meth, c, nL1, Z⟩ := x
  obtain ⟨hx, hb, hml, hnL, hr, hlk, hnm, hown, hts, hK, hfr, hlo, hmc, hms⟩ := O
  intro H locs ls hP hL hl
  exact lv_ldc hx hb hown (hts _ hw) hd (K H locs ls hP hL hl)
theorem om_ldc2 {x : om_X} {own nm : String} {cc : ByteArray} {nL k mc ms : Nat} {ret : Option FieldType} (O : om_Ok x own nm cc nL ret k mc ms) {pc : Nat} {lv : List (Nat × om_V)} {st : List om_V} {σ : om_S} {ρ : om_R} {n cells slots : Nat} {index : Nat} {v : Int64} (hw : Cond.constantLong own index v ∈ om_tbl) (hd : decode cc pc = .ok (.ldc2_w index, 3)) (K : om_J x (pc + 3) (lv) (vL v :: st) σ ρ n cells slots) : om_J x (pc) (lv) (st) σ ρ n cells slots := by
  obtain ⟨G, p, l, e, R, s, m, args, below, meth, c, nL1, Z⟩ := x
  obtain ⟨hx, hb, hml, hnL, hr, hlk, hnm, hown, hts, hK, hfr, hlo, hmc, hms⟩ := O
  intro H locs ls hP hL hl
  exact lv_ldc2 hx hb hown (hts _ hw) hd (K H locs ls hP hL hl)
theorem om_null {x : om_X} {own nm : String} {cc : ByteArray} {nL k mc ms : Nat} {ret : Option FieldType} (O : om_Ok x own nm cc nL ret k mc ms) {pc : Nat} {lv : List (Nat × om_V)} {st : List om_V} {σ : om_S} {ρ : om_R} {n cells slots : Nat}  (hd : decode cc pc = .ok (.aconst_null, 1)) (K : om_J x (pc + 1) (lv) (vR none :: st) σ ρ n cells slots) : om_J x (pc) (lv) (st) σ ρ n cells slots := by
  obtain ⟨G, p, l, e, R, s, m, args, below, meth, c, nL1, Z⟩ := x
  obtain ⟨hx, hb, hml, hnL, hr, hlk, hnm, hown, hts, hK, hfr, hlo, hmc, hms⟩ := O
  intro H locs ls hP hL hl
  exact lv_null hx hb hd (K H locs ls hP hL hl)
theorem om_lv_at {G : om_G} {ls : Array Slot} {nL : Nat} {lv : List (Nat × om_V)} (h : lv_has ls nL (lv.map fun q => (q.1, om_cv G q.2))) (q : Nat) {i : Nat} {v : om_V} (hq : lv[q]? = some (i, v)) : ls[i]? = some (.val (om_cv G v)) :=
  lv_at h q (by rw [List.getElem?_map, hq]; rfl)
def om_c2 : om_V → Bool
  | .inr (.inl _) => true
  | _ => false
theorem om_cat2 (G : om_G) (v : om_V) : ((om_cv G v).category == 2) = om_c2 v := by
  rcases v with x | x | r
  · rfl
  · rfl
  · cases r <;> rfl
def om_keep (i : Nat) (q : Nat × om_V) : Bool := !(q.1 == i) && !(q.1 + 1 == i && om_c2 q.2)
theorem om_lv_store {G : om_G} {lv : List (Nat × om_V)} {i : Nat} {v : om_V} : (i, om_cv G v) :: (lv.map fun q => (q.1, om_cv G q.2)).filter (fun q => !(q.1 == i) && !(q.1 + 1 == i && q.2.category == 2)) = ((i, v) :: lv.filter (om_keep i)).map fun q => (q.1, om_cv G q.2) := by
  rw [List.map_cons, List.filter_map]
  have h : ((fun q : Nat × Value => !(q.1 == i) && !(q.1 + 1 == i && q.2.category == 2)) ∘ fun q : Nat × om_V => (q.1, om_cv G q.2)) = om_keep i := by
    funext q
    show (!(q.1 == i) && !(q.1 + 1 == i && (om_cv G q.2).category == 2)) = _
    rw [om_cat2]
    rfl
  rw [h]
theorem om_lv_pick {G : om_G} {ls : Array Slot} {nL : Nat} {lv lv' : List (Nat × om_V)} (h : lv_has ls nL (lv.map fun q => (q.1, om_cv G q.2))) (ks : List Nat) (hp : ks.filterMap (fun k => lv[k]?) = lv') : lv_has ls nL (lv'.map fun q => (q.1, om_cv G q.2)) := by
  refine lv_sub h ks ?_
  rw [← hp]
  unfold lv_pick
  rw [List.map_filterMap]
  congr 1
  funext k
  rw [List.getElem?_map]
theorem om_iload_n {x : om_X} {own nm : String} {cc : ByteArray} {nL k mc ms : Nat} {ret : Option FieldType} (O : om_Ok x own nm cc nL ret k mc ms) {pc : Nat} {lv : List (Nat × om_V)} {st : List om_V} {σ : om_S} {ρ : om_R} {n cells slots : Nat} {kk : Fin 4} {i : Nat} {v : Int32} (q : Nat) (hd : decode cc pc = .ok (.iload_n kk, 1)) (hq : lv[q]? = some (i, vI v)) (hi : (kk : Nat) = i) (K : om_J x (pc + 1) (lv) (vI v :: st) σ ρ n cells slots) : om_J x (pc) (lv) (st) σ ρ n cells slots := by
  obtain ⟨G, p, l, e, R, s, m, args, below, meth, c, nL1, Z⟩ := x
  obtain ⟨hx, hb, hml, hnL, hr, hlk, hnm, hown, hts, hK, hfr, hlo, hmc, hms⟩ := O
  intro H locs ls hP hL hl
  exact lv_iload_n hx hb hd hi (om_lv_at hl q hq) (K H locs ls hP hL hl)
theorem om_iload {x : om_X} {own nm : String} {cc : ByteArray} {nL k mc ms : Nat} {ret : Option FieldType} (O : om_Ok x own nm cc nL ret k mc ms) {pc : Nat} {lv : List (Nat × om_V)} {st : List om_V} {σ : om_S} {ρ : om_R} {n cells slots : Nat} {i : Nat} {v : Int32} (q : Nat) (hd : decode cc pc = .ok (.iload i, 2)) (hq : lv[q]? = some (i, vI v)) (K : om_J x (pc + 2) (lv) (vI v :: st) σ ρ n cells slots) : om_J x (pc) (lv) (st) σ ρ n cells slots := by
  obtain ⟨G, p, l, e, R, s, m, args, below, meth, c, nL1, Z⟩ := x
  obtain ⟨hx, hb, hml, hnL, hr, hlk, hnm, hown, hts, hK, hfr, hlo, hmc, hms⟩ := O
  intro H locs ls hP hL hl
  exact lv_iload hx hb hd (om_lv_at hl q hq) (K H locs ls hP hL hl)
theorem om_lload_n {x : om_X} {own nm : String} {cc : ByteArray} {nL k mc ms : Nat} {ret : Option FieldType} (O : om_Ok x own nm cc nL ret k mc ms) {pc : Nat} {lv : List (Nat × om_V)} {st : List om_V} {σ : om_S} {ρ : om_R} {n cells slots : Nat} {kk : Fin 4} {i : Nat} {v : Int64} (q : Nat) (hd : decode cc pc = .ok (.lload_n kk, 1)) (hq : lv[q]? = some (i, vL v)) (hi : (kk : Nat) = i) (K : om_J x (pc + 1) (lv) (vL v :: st) σ ρ n cells slots) : om_J x (pc) (lv) (st) σ ρ n cells slots := by
  obtain ⟨G, p, l, e, R, s, m, args, below, meth, c, nL1, Z⟩ := x
  obtain ⟨hx, hb, hml, hnL, hr, hlk, hnm, hown, hts, hK, hfr, hlo, hmc, hms⟩ := O
  intro H locs ls hP hL hl
  exact lv_lload_n hx hb hd hi (om_lv_at hl q hq) (K H locs ls hP hL hl)
theorem om_lload {x : om_X} {own nm : String} {cc : ByteArray} {nL k mc ms : Nat} {ret : Option FieldType} (O : om_Ok x own nm cc nL ret k mc ms) {pc : Nat} {lv : List (Nat × om_V)} {st : List om_V} {σ : om_S} {ρ : om_R} {n cells slots : Nat} {i : Nat} {v : Int64} (q : Nat) (hd : decode cc pc = .ok (.lload i, 2)) (hq : lv[q]? = some (i, vL v)) (K : om_J x (pc + 2) (lv) (vL v :: st) σ ρ n cells slots) : om_J x (pc) (lv) (st) σ ρ n cells slots := by
  obtain ⟨G, p, l, e, R, s, m, args, below, meth, c, nL1, Z⟩ := x
  obtain ⟨hx, hb, hml, hnL, hr, hlk, hnm, hown, hts, hK, hfr, hlo, hmc, hms⟩ := O
  intro H locs ls hP hL hl
  exact lv_lload hx hb hd (om_lv_at hl q hq) (K H locs ls hP hL hl)
theorem om_aload_n {x : om_X} {own nm : String} {cc : ByteArray} {nL k mc ms : Nat} {ret : Option FieldType} (O : om_Ok x own nm cc nL ret k mc ms) {pc : Nat} {lv : List (Nat × om_V)} {st : List om_V} {σ : om_S} {ρ : om_R} {n cells slots : Nat} {kk : Fin 4} {i : Nat} {v : Option Nat} (q : Nat) (hd : decode cc pc = .ok (.aload_n kk, 1)) (hq : lv[q]? = some (i, vR v)) (hi : (kk : Nat) = i) (K : om_J x (pc + 1) (lv) (vR v :: st) σ ρ n cells slots) : om_J x (pc) (lv) (st) σ ρ n cells slots := by
  obtain ⟨G, p, l, e, R, s, m, args, below, meth, c, nL1, Z⟩ := x
  obtain ⟨hx, hb, hml, hnL, hr, hlk, hnm, hown, hts, hK, hfr, hlo, hmc, hms⟩ := O
  intro H locs ls hP hL hl
  have h1 := om_lv_at hl q hq
  have h2 := K H locs ls hP hL hl
  cases v with
  | none => exact lv_aload_nN hx hb hd hi h1 h2
  | some a => exact lv_aload_n hx hb hd hi h1 h2
theorem om_aload {x : om_X} {own nm : String} {cc : ByteArray} {nL k mc ms : Nat} {ret : Option FieldType} (O : om_Ok x own nm cc nL ret k mc ms) {pc : Nat} {lv : List (Nat × om_V)} {st : List om_V} {σ : om_S} {ρ : om_R} {n cells slots : Nat} {i : Nat} {v : Option Nat} (q : Nat) (hd : decode cc pc = .ok (.aload i, 2)) (hq : lv[q]? = some (i, vR v)) (K : om_J x (pc + 2) (lv) (vR v :: st) σ ρ n cells slots) : om_J x (pc) (lv) (st) σ ρ n cells slots := by
  obtain ⟨G, p, l, e, R, s, m, args, below, meth, c, nL1, Z⟩ := x
  obtain ⟨hx, hb, hml, hnL, hr, hlk, hnm, hown, hts, hK, hfr, hlo, hmc, hms⟩ := O
  intro H locs ls hP hL hl
  have h1 := om_lv_at hl q hq
  have h2 := K H locs ls hP hL hl
  cases v with
  | none => exact lv_aloadN hx hb hd h1 h2
  | some a => exact lv_aload hx hb hd h1 h2
theorem om_istore_n {x : om_X} {own nm : String} {cc : ByteArray} {nL k mc ms : Nat} {ret : Option FieldType} (O : om_Ok x own nm cc nL ret k mc ms) {pc : Nat} {lv : List (Nat × om_V)} {st : List om_V} {σ : om_S} {ρ : om_R} {n cells slots : Nat} {kk : Fin 4} {i : Nat} {v0 v : Int32} {lv' : List (Nat × om_V)} (ks : List Nat) (hv : v0 = v) (hd : decode cc pc = .ok (.istore_n kk, 1)) (hi : (kk : Nat) = i) (hn : i < nL) (hl' : ks.filterMap (fun k => ((i, vI v) :: lv.filter (om_keep i))[k]?) = lv') (K : om_J x (pc + 1) (lv') (st) σ ρ n cells slots) : om_J x (pc) (lv) (vI v0 :: st) σ ρ n cells slots := by
  obtain ⟨G, p, l, e, R, s, m, args, below, meth, c, nL1, Z⟩ := x
  obtain ⟨hx, hb, hml, hnL, hr, hlk, hnm, hown, hts, hK, hfr, hlo, hmc, hms⟩ := O
  intro H locs ls hP hL hl
  subst hnL
  subst hv
  exact lv_istore_n (lv' := ((i, vI v0) :: lv.filter (om_keep i)).map fun q => (q.1, om_cv G q.2)) hx hb hd hi hl hn (om_lv_store (v := vI v0)) (fun ls' h' => K H locs ls' hP hL (om_lv_pick h' ks hl'))
theorem om_istore {x : om_X} {own nm : String} {cc : ByteArray} {nL k mc ms : Nat} {ret : Option FieldType} (O : om_Ok x own nm cc nL ret k mc ms) {pc : Nat} {lv : List (Nat × om_V)} {st : List om_V} {σ : om_S} {ρ : om_R} {n cells slots : Nat} {i : Nat} {v0 v : Int32} {lv' : List (Nat × om_V)} (ks : List Nat) (hv : v0 = v) (hd : decode cc pc = .ok (.istore i, 2)) (hn : i < nL) (hl' : ks.filterMap (fun k => ((i, vI v) :: lv.filter (om_keep i))[k]?) = lv') (K : om_J x (pc + 2) (lv') (st) σ ρ n cells slots) : om_J x (pc) (lv) (vI v0 :: st) σ ρ n cells slots := by
  obtain ⟨G, p, l, e, R, s, m, args, below, meth, c, nL1, Z⟩ := x
  obtain ⟨hx, hb, hml, hnL, hr, hlk, hnm, hown, hts, hK, hfr, hlo, hmc, hms⟩ := O
  intro H locs ls hP hL hl
  subst hnL
  subst hv
  exact lv_istore (lv' := ((i, vI v0) :: lv.filter (om_keep i)).map fun q => (q.1, om_cv G q.2)) hx hb hd hl hn (om_lv_store (v := vI v0)) (fun ls' h' => K H locs ls' hP hL (om_lv_pick h' ks hl'))
theorem om_astore_n {x : om_X} {own nm : String} {cc : ByteArray} {nL k mc ms : Nat} {ret : Option FieldType} (O : om_Ok x own nm cc nL ret k mc ms) {pc : Nat} {lv : List (Nat × om_V)} {st : List om_V} {σ : om_S} {ρ : om_R} {n cells slots : Nat} {kk : Fin 4} {i : Nat} {v : Option Nat} {lv' : List (Nat × om_V)} (ks : List Nat) (hd : decode cc pc = .ok (.astore_n kk, 1)) (hi : (kk : Nat) = i) (hn : i < nL) (hl' : ks.filterMap (fun k => ((i, vR v) :: lv.filter (om_keep i))[k]?) = lv') (K : om_J x (pc + 1) (lv') (st) σ ρ n cells slots) : om_J x (pc) (lv) (vR v :: st) σ ρ n cells slots := by
  obtain ⟨G, p, l, e, R, s, m, args, below, meth, c, nL1, Z⟩ := x
  obtain ⟨hx, hb, hml, hnL, hr, hlk, hnm, hown, hts, hK, hfr, hlo, hmc, hms⟩ := O
  intro H locs ls hP hL hl
  subst hnL
  cases v with
  | none => exact lv_astore_nN (lv' := ((i, vR none) :: lv.filter (om_keep i)).map fun q => (q.1, om_cv G q.2)) hx hb hd hi hl hn (om_lv_store (v := vR none)) (fun ls' h' => K H locs ls' hP hL (om_lv_pick h' ks hl'))
  | some a => exact lv_astore_n (lv' := ((i, vR (some a)) :: lv.filter (om_keep i)).map fun q => (q.1, om_cv G q.2)) hx hb hd hi hl hn (om_lv_store (v := vR (some a))) (fun ls' h' => K H locs ls' hP hL (om_lv_pick h' ks hl'))
theorem om_astore {x : om_X} {own nm : String} {cc : ByteArray} {nL k mc ms : Nat} {ret : Option FieldType} (O : om_Ok x own nm cc nL ret k mc ms) {pc : Nat} {lv : List (Nat × om_V)} {st : List om_V} {σ : om_S} {ρ : om_R} {n cells slots : Nat} {i : Nat} {v : Option Nat} {lv' : List (Nat × om_V)} (ks : List Nat) (hd : decode cc pc = .ok (.astore i, 2)) (hn : i < nL) (hl' : ks.filterMap (fun k => ((i, vR v) :: lv.filter (om_keep i))[k]?) = lv') (K : om_J x (pc + 2) (lv') (st) σ ρ n cells slots) : om_J x (pc) (lv) (vR v :: st) σ ρ n cells slots := by
  obtain ⟨G, p, l, e, R, s, m, args, below, meth, c, nL1, Z⟩ := x
  obtain ⟨hx, hb, hml, hnL, hr, hlk, hnm, hown, hts, hK, hfr, hlo, hmc, hms⟩ := O
  intro H locs ls hP hL hl
  subst hnL
  cases v with
  | none => exact lv_astoreN (lv' := ((i, vR none) :: lv.filter (om_keep i)).map fun q => (q.1, om_cv G q.2)) hx hb hd hl hn (om_lv_store (v := vR none)) (fun ls' h' => K H locs ls' hP hL (om_lv_pick h' ks hl'))
  | some a => exact lv_astore (lv' := ((i, vR (some a)) :: lv.filter (om_keep i)).map fun q => (q.1, om_cv G q.2)) hx hb hd hl hn (om_lv_store (v := vR (some a))) (fun ls' h' => K H locs ls' hP hL (om_lv_pick h' ks hl'))
theorem om_iinc {x : om_X} {own nm : String} {cc : ByteArray} {nL k mc ms : Nat} {ret : Option FieldType} (O : om_Ok x own nm cc nL ret k mc ms) {pc : Nat} {lv : List (Nat × om_V)} {st : List om_V} {σ : om_S} {ρ : om_R} {n cells slots : Nat} {i : Nat} {z : Int} {v0 v1 v : Int32} (q : Nat) {lv' : List (Nat × om_V)} (ks : List Nat) (hv1 : v1 = v) (hd : decode cc pc = .ok (.iinc i z, 3)) (hq : lv[q]? = some (i, vI v0)) (hv : v0 + Int32.ofInt z = v1) (hn : i < nL) (hl' : ks.filterMap (fun k => ((i, vI v) :: lv.filter (om_keep i))[k]?) = lv') (K : om_J x (pc + 3) (lv') (st) σ ρ n cells slots) : om_J x (pc) (lv) (st) σ ρ n cells slots := by
  obtain ⟨G, p, l, e, R, s, m, args, below, meth, c, nL1, Z⟩ := x
  obtain ⟨hx, hb, hml, hnL, hr, hlk, hnm, hown, hts, hK, hfr, hlo, hmc, hms⟩ := O
  intro H locs ls hP hL hl
  subst hnL
  subst hv1
  exact lv_iinc (k := q) (lv' := ((i, vI v1) :: lv.filter (om_keep i)).map fun q => (q.1, om_cv G q.2)) hx hb hd hl (by rw [List.getElem?_map, hq]; rfl) hv hn (om_lv_store (v := vI v1)) (fun ls' h' => K H locs ls' hP hL (om_lv_pick h' ks hl'))
theorem om_drop {x : om_X} {pc : Nat} {lv lv' : List (Nat × om_V)} {st : List om_V} {σ : om_S} {ρ : om_R} {n cells slots : Nat} (ks : List Nat) (hp : ks.filterMap (fun k => lv[k]?) = lv') (K : om_J x pc lv' st σ ρ n cells slots) : om_J x pc lv st σ ρ n cells slots := by
  obtain ⟨G, p, l, e, R, s, m, args, below, meth, c, nL1, Z⟩ := x
  intro H locs ls hP hL hl
  exact K H locs ls hP hL (om_lv_pick hl ks hp)
theorem om_eq {x : om_X} {pc pc' : Nat} {lv lv' : List (Nat × om_V)} {st st' : List om_V} {σ σ' : om_S} {ρ ρ' : om_R} {n n' cells slots : Nat} (h1 : pc = pc') (h2 : lv = lv') (h3 : st = st') (h4 : σ = σ') (h5 : ρ = ρ') (h6 : n = n') (K : om_J x pc' lv' st' σ' ρ' n' cells slots) : om_J x pc lv st σ ρ n cells slots := by
  subst h1; subst h2; subst h3; subst h4; subst h5; subst h6
  exact K
theorem om_widen {x : om_X} {pc : Nat} {lv : List (Nat × om_V)} {st : List om_V} {σ : om_S} {ρ : om_R} {n cells slots : Nat} (c2 s2 : Nat) (h1 : cells ≤ c2) (h2 : slots ≤ s2) (K : om_J x pc lv st σ ρ n c2 s2) : om_J x pc lv st σ ρ n cells slots := by
  obtain ⟨G, p, l, e, R, s, m, args, below, meth, c, nL1, Z⟩ := x
  intro H locs ls hP hL hl
  exact W.widen h1 h2 (K H locs ls hP hL hl)
theorem om_iadd {x : om_X} {own nm : String} {cc : ByteArray} {nL k mc ms : Nat} {ret : Option FieldType} (O : om_Ok x own nm cc nL ret k mc ms) {pc : Nat} {lv : List (Nat × om_V)} {st : List om_V} {σ : om_S} {ρ : om_R} {n cells slots : Nat} {a b : Int32} (hd : decode cc pc = .ok (.iadd, 1)) (K : om_J x (pc + 1) (lv) (vI (a + b) :: st) σ ρ n cells slots) : om_J x (pc) (lv) (vI b :: vI a :: st) σ ρ n cells slots := by
  obtain ⟨G, p, l, e, R, s, m, args, below, meth, c, nL1, Z⟩ := x
  obtain ⟨hx, hb, hml, hnL, hr, hlk, hnm, hown, hts, hK, hfr, hlo, hmc, hms⟩ := O
  intro H locs ls hP hL hl
  exact lv_iadd hx hb hd (K H locs ls hP hL hl)
theorem om_isub {x : om_X} {own nm : String} {cc : ByteArray} {nL k mc ms : Nat} {ret : Option FieldType} (O : om_Ok x own nm cc nL ret k mc ms) {pc : Nat} {lv : List (Nat × om_V)} {st : List om_V} {σ : om_S} {ρ : om_R} {n cells slots : Nat} {a b : Int32} (hd : decode cc pc = .ok (.isub, 1)) (K : om_J x (pc + 1) (lv) (vI (a - b) :: st) σ ρ n cells slots) : om_J x (pc) (lv) (vI b :: vI a :: st) σ ρ n cells slots := by
  obtain ⟨G, p, l, e, R, s, m, args, below, meth, c, nL1, Z⟩ := x
  obtain ⟨hx, hb, hml, hnL, hr, hlk, hnm, hown, hts, hK, hfr, hlo, hmc, hms⟩ := O
  intro H locs ls hP hL hl
  exact lv_isub hx hb hd (K H locs ls hP hL hl)
theorem om_imul {x : om_X} {own nm : String} {cc : ByteArray} {nL k mc ms : Nat} {ret : Option FieldType} (O : om_Ok x own nm cc nL ret k mc ms) {pc : Nat} {lv : List (Nat × om_V)} {st : List om_V} {σ : om_S} {ρ : om_R} {n cells slots : Nat} {a b : Int32} (hd : decode cc pc = .ok (.imul, 1)) (K : om_J x (pc + 1) (lv) (vI (a * b) :: st) σ ρ n cells slots) : om_J x (pc) (lv) (vI b :: vI a :: st) σ ρ n cells slots := by
  obtain ⟨G, p, l, e, R, s, m, args, below, meth, c, nL1, Z⟩ := x
  obtain ⟨hx, hb, hml, hnL, hr, hlk, hnm, hown, hts, hK, hfr, hlo, hmc, hms⟩ := O
  intro H locs ls hP hL hl
  exact lv_imul hx hb hd (K H locs ls hP hL hl)
theorem om_iand {x : om_X} {own nm : String} {cc : ByteArray} {nL k mc ms : Nat} {ret : Option FieldType} (O : om_Ok x own nm cc nL ret k mc ms) {pc : Nat} {lv : List (Nat × om_V)} {st : List om_V} {σ : om_S} {ρ : om_R} {n cells slots : Nat} {a b : Int32} (hd : decode cc pc = .ok (.iand, 1)) (K : om_J x (pc + 1) (lv) (vI (a &&& b) :: st) σ ρ n cells slots) : om_J x (pc) (lv) (vI b :: vI a :: st) σ ρ n cells slots := by
  obtain ⟨G, p, l, e, R, s, m, args, below, meth, c, nL1, Z⟩ := x
  obtain ⟨hx, hb, hml, hnL, hr, hlk, hnm, hown, hts, hK, hfr, hlo, hmc, hms⟩ := O
  intro H locs ls hP hL hl
  exact lv_iand hx hb hd (K H locs ls hP hL hl)
theorem om_ior {x : om_X} {own nm : String} {cc : ByteArray} {nL k mc ms : Nat} {ret : Option FieldType} (O : om_Ok x own nm cc nL ret k mc ms) {pc : Nat} {lv : List (Nat × om_V)} {st : List om_V} {σ : om_S} {ρ : om_R} {n cells slots : Nat} {a b : Int32} (hd : decode cc pc = .ok (.ior, 1)) (K : om_J x (pc + 1) (lv) (vI (a ||| b) :: st) σ ρ n cells slots) : om_J x (pc) (lv) (vI b :: vI a :: st) σ ρ n cells slots := by
  obtain ⟨G, p, l, e, R, s, m, args, below, meth, c, nL1, Z⟩ := x
  obtain ⟨hx, hb, hml, hnL, hr, hlk, hnm, hown, hts, hK, hfr, hlo, hmc, hms⟩ := O
  intro H locs ls hP hL hl
  exact lv_ior hx hb hd (K H locs ls hP hL hl)
theorem om_ixor {x : om_X} {own nm : String} {cc : ByteArray} {nL k mc ms : Nat} {ret : Option FieldType} (O : om_Ok x own nm cc nL ret k mc ms) {pc : Nat} {lv : List (Nat × om_V)} {st : List om_V} {σ : om_S} {ρ : om_R} {n cells slots : Nat} {a b : Int32} (hd : decode cc pc = .ok (.ixor, 1)) (K : om_J x (pc + 1) (lv) (vI (a ^^^ b) :: st) σ ρ n cells slots) : om_J x (pc) (lv) (vI b :: vI a :: st) σ ρ n cells slots := by
  obtain ⟨G, p, l, e, R, s, m, args, below, meth, c, nL1, Z⟩ := x
  obtain ⟨hx, hb, hml, hnL, hr, hlk, hnm, hown, hts, hK, hfr, hlo, hmc, hms⟩ := O
  intro H locs ls hP hL hl
  exact lv_ixor hx hb hd (K H locs ls hP hL hl)
theorem om_idiv {x : om_X} {own nm : String} {cc : ByteArray} {nL k mc ms : Nat} {ret : Option FieldType} (O : om_Ok x own nm cc nL ret k mc ms) {pc : Nat} {lv : List (Nat × om_V)} {st : List om_V} {σ : om_S} {ρ : om_R} {n cells slots : Nat} {a b : Int32} (hd : decode cc pc = .ok (.idiv, 1)) (hne : ¬ b = 0) (K : om_J x (pc + 1) (lv) (vI (a / b) :: st) σ ρ n cells slots) : om_J x (pc) (lv) (vI b :: vI a :: st) σ ρ n cells slots := by
  obtain ⟨G, p, l, e, R, s, m, args, below, meth, c, nL1, Z⟩ := x
  obtain ⟨hx, hb, hml, hnL, hr, hlk, hnm, hown, hts, hK, hfr, hlo, hmc, hms⟩ := O
  intro H locs ls hP hL hl
  exact lv_idiv hx hb hd hne (K H locs ls hP hL hl)
theorem om_irem {x : om_X} {own nm : String} {cc : ByteArray} {nL k mc ms : Nat} {ret : Option FieldType} (O : om_Ok x own nm cc nL ret k mc ms) {pc : Nat} {lv : List (Nat × om_V)} {st : List om_V} {σ : om_S} {ρ : om_R} {n cells slots : Nat} {a b : Int32} (hd : decode cc pc = .ok (.irem, 1)) (hne : ¬ b = 0) (K : om_J x (pc + 1) (lv) (vI (a - a / b * b) :: st) σ ρ n cells slots) : om_J x (pc) (lv) (vI b :: vI a :: st) σ ρ n cells slots := by
  obtain ⟨G, p, l, e, R, s, m, args, below, meth, c, nL1, Z⟩ := x
  obtain ⟨hx, hb, hml, hnL, hr, hlk, hnm, hown, hts, hK, hfr, hlo, hmc, hms⟩ := O
  intro H locs ls hP hL hl
  exact lv_irem hx hb hd hne (K H locs ls hP hL hl)
theorem om_ineg {x : om_X} {own nm : String} {cc : ByteArray} {nL k mc ms : Nat} {ret : Option FieldType} (O : om_Ok x own nm cc nL ret k mc ms) {pc : Nat} {lv : List (Nat × om_V)} {st : List om_V} {σ : om_S} {ρ : om_R} {n cells slots : Nat} {a : Int32} (hd : decode cc pc = .ok (.ineg, 1)) (K : om_J x (pc + 1) (lv) (vI (-a) :: st) σ ρ n cells slots) : om_J x (pc) (lv) (vI a :: st) σ ρ n cells slots := by
  obtain ⟨G, p, l, e, R, s, m, args, below, meth, c, nL1, Z⟩ := x
  obtain ⟨hx, hb, hml, hnL, hr, hlk, hnm, hown, hts, hK, hfr, hlo, hmc, hms⟩ := O
  intro H locs ls hP hL hl
  exact lv_ineg hx hb hd (K H locs ls hP hL hl)
theorem om_ishl {x : om_X} {own nm : String} {cc : ByteArray} {nL k mc ms : Nat} {ret : Option FieldType} (O : om_Ok x own nm cc nL ret k mc ms) {pc : Nat} {lv : List (Nat × om_V)} {st : List om_V} {σ : om_S} {ρ : om_R} {n cells slots : Nat} {a b : Int32} (hd : decode cc pc = .ok (.ishl, 1)) (K : om_J x (pc + 1) (lv) (vI (a <<< (b &&& 31)) :: st) σ ρ n cells slots) : om_J x (pc) (lv) (vI b :: vI a :: st) σ ρ n cells slots := by
  obtain ⟨G, p, l, e, R, s, m, args, below, meth, c, nL1, Z⟩ := x
  obtain ⟨hx, hb, hml, hnL, hr, hlk, hnm, hown, hts, hK, hfr, hlo, hmc, hms⟩ := O
  intro H locs ls hP hL hl
  exact lv_ishl hx hb hd (K H locs ls hP hL hl)
theorem om_ishr {x : om_X} {own nm : String} {cc : ByteArray} {nL k mc ms : Nat} {ret : Option FieldType} (O : om_Ok x own nm cc nL ret k mc ms) {pc : Nat} {lv : List (Nat × om_V)} {st : List om_V} {σ : om_S} {ρ : om_R} {n cells slots : Nat} {a b : Int32} (hd : decode cc pc = .ok (.ishr, 1)) (K : om_J x (pc + 1) (lv) (vI (a >>> (b &&& 31)) :: st) σ ρ n cells slots) : om_J x (pc) (lv) (vI b :: vI a :: st) σ ρ n cells slots := by
  obtain ⟨G, p, l, e, R, s, m, args, below, meth, c, nL1, Z⟩ := x
  obtain ⟨hx, hb, hml, hnL, hr, hlk, hnm, hown, hts, hK, hfr, hlo, hmc, hms⟩ := O
  intro H locs ls hP hL hl
  exact lv_ishr hx hb hd (K H locs ls hP hL hl)
theorem om_iushr {x : om_X} {own nm : String} {cc : ByteArray} {nL k mc ms : Nat} {ret : Option FieldType} (O : om_Ok x own nm cc nL ret k mc ms) {pc : Nat} {lv : List (Nat × om_V)} {st : List om_V} {σ : om_S} {ρ : om_R} {n cells slots : Nat} {a b : Int32} (hd : decode cc pc = .ok (.iushr, 1)) (K : om_J x (pc + 1) (lv) (vI ((a.toUInt32 >>> (b.toUInt32 &&& Int32.toUInt32 31)).toInt32) :: st) σ ρ n cells slots) : om_J x (pc) (lv) (vI b :: vI a :: st) σ ρ n cells slots := by
  obtain ⟨G, p, l, e, R, s, m, args, below, meth, c, nL1, Z⟩ := x
  obtain ⟨hx, hb, hml, hnL, hr, hlk, hnm, hown, hts, hK, hfr, hlo, hmc, hms⟩ := O
  intro H locs ls hP hL hl
  exact lv_iushr hx hb hd rfl (K H locs ls hP hL hl)
theorem om_lushr {x : om_X} {own nm : String} {cc : ByteArray} {nL k mc ms : Nat} {ret : Option FieldType} (O : om_Ok x own nm cc nL ret k mc ms) {pc : Nat} {lv : List (Nat × om_V)} {st : List om_V} {σ : om_S} {ρ : om_R} {n cells slots : Nat} {a : Int64} {b : Int32} (hd : decode cc pc = .ok (.lushr, 1)) (K : om_J x (pc + 1) (lv) (vL ((a.toUInt64 >>> (b.toInt64.toUInt64 &&& Int64.toUInt64 63)).toInt64) :: st) σ ρ n cells slots) : om_J x (pc) (lv) (vI b :: vL a :: st) σ ρ n cells slots := by
  obtain ⟨G, p, l, e, R, s, m, args, below, meth, c, nL1, Z⟩ := x
  obtain ⟨hx, hb, hml, hnL, hr, hlk, hnm, hown, hts, hK, hfr, hlo, hmc, hms⟩ := O
  intro H locs ls hP hL hl
  exact lv_lushr hx hb hd rfl (K H locs ls hP hL hl)
theorem om_lshl {x : om_X} {own nm : String} {cc : ByteArray} {nL k mc ms : Nat} {ret : Option FieldType} (O : om_Ok x own nm cc nL ret k mc ms) {pc : Nat} {lv : List (Nat × om_V)} {st : List om_V} {σ : om_S} {ρ : om_R} {n cells slots : Nat} {a : Int64} {b : Int32} (hd : decode cc pc = .ok (.lshl, 1)) (K : om_J x (pc + 1) (lv) (vL (a <<< (b.toInt64 &&& 63)) :: st) σ ρ n cells slots) : om_J x (pc) (lv) (vI b :: vL a :: st) σ ρ n cells slots := by
  obtain ⟨G, p, l, e, R, s, m, args, below, meth, c, nL1, Z⟩ := x
  obtain ⟨hx, hb, hml, hnL, hr, hlk, hnm, hown, hts, hK, hfr, hlo, hmc, hms⟩ := O
  intro H locs ls hP hL hl
  exact lv_lshl hx hb hd rfl (K H locs ls hP hL hl)
theorem om_lshr {x : om_X} {own nm : String} {cc : ByteArray} {nL k mc ms : Nat} {ret : Option FieldType} (O : om_Ok x own nm cc nL ret k mc ms) {pc : Nat} {lv : List (Nat × om_V)} {st : List om_V} {σ : om_S} {ρ : om_R} {n cells slots : Nat} {a : Int64} {b : Int32} (hd : decode cc pc = .ok (.lshr, 1)) (K : om_J x (pc + 1) (lv) (vL (a >>> (b.toInt64 &&& 63)) :: st) σ ρ n cells slots) : om_J x (pc) (lv) (vI b :: vL a :: st) σ ρ n cells slots := by
  obtain ⟨G, p, l, e, R, s, m, args, below, meth, c, nL1, Z⟩ := x
  obtain ⟨hx, hb, hml, hnL, hr, hlk, hnm, hown, hts, hK, hfr, hlo, hmc, hms⟩ := O
  intro H locs ls hP hL hl
  exact lv_lshr hx hb hd rfl (K H locs ls hP hL hl)
theorem om_land {x : om_X} {own nm : String} {cc : ByteArray} {nL k mc ms : Nat} {ret : Option FieldType} (O : om_Ok x own nm cc nL ret k mc ms) {pc : Nat} {lv : List (Nat × om_V)} {st : List om_V} {σ : om_S} {ρ : om_R} {n cells slots : Nat} {a b : Int64} (hd : decode cc pc = .ok (.land, 1)) (K : om_J x (pc + 1) (lv) (vL (a &&& b) :: st) σ ρ n cells slots) : om_J x (pc) (lv) (vL b :: vL a :: st) σ ρ n cells slots := by
  obtain ⟨G, p, l, e, R, s, m, args, below, meth, c, nL1, Z⟩ := x
  obtain ⟨hx, hb, hml, hnL, hr, hlk, hnm, hown, hts, hK, hfr, hlo, hmc, hms⟩ := O
  intro H locs ls hP hL hl
  exact lv_land hx hb hd (K H locs ls hP hL hl)
theorem om_lor {x : om_X} {own nm : String} {cc : ByteArray} {nL k mc ms : Nat} {ret : Option FieldType} (O : om_Ok x own nm cc nL ret k mc ms) {pc : Nat} {lv : List (Nat × om_V)} {st : List om_V} {σ : om_S} {ρ : om_R} {n cells slots : Nat} {a b : Int64} (hd : decode cc pc = .ok (.lor, 1)) (K : om_J x (pc + 1) (lv) (vL (a ||| b) :: st) σ ρ n cells slots) : om_J x (pc) (lv) (vL b :: vL a :: st) σ ρ n cells slots := by
  obtain ⟨G, p, l, e, R, s, m, args, below, meth, c, nL1, Z⟩ := x
  obtain ⟨hx, hb, hml, hnL, hr, hlk, hnm, hown, hts, hK, hfr, hlo, hmc, hms⟩ := O
  intro H locs ls hP hL hl
  exact lv_lor hx hb hd (K H locs ls hP hL hl)
theorem om_i2l {x : om_X} {own nm : String} {cc : ByteArray} {nL k mc ms : Nat} {ret : Option FieldType} (O : om_Ok x own nm cc nL ret k mc ms) {pc : Nat} {lv : List (Nat × om_V)} {st : List om_V} {σ : om_S} {ρ : om_R} {n cells slots : Nat} {a : Int32} (hd : decode cc pc = .ok (.i2l, 1)) (K : om_J x (pc + 1) (lv) (vL a.toInt64 :: st) σ ρ n cells slots) : om_J x (pc) (lv) (vI a :: st) σ ρ n cells slots := by
  obtain ⟨G, p, l, e, R, s, m, args, below, meth, c, nL1, Z⟩ := x
  obtain ⟨hx, hb, hml, hnL, hr, hlk, hnm, hown, hts, hK, hfr, hlo, hmc, hms⟩ := O
  intro H locs ls hP hL hl
  exact lv_i2l hx hb hd rfl (K H locs ls hP hL hl)
theorem om_l2i {x : om_X} {own nm : String} {cc : ByteArray} {nL k mc ms : Nat} {ret : Option FieldType} (O : om_Ok x own nm cc nL ret k mc ms) {pc : Nat} {lv : List (Nat × om_V)} {st : List om_V} {σ : om_S} {ρ : om_R} {n cells slots : Nat} {a : Int64} (hd : decode cc pc = .ok (.l2i, 1)) (K : om_J x (pc + 1) (lv) (vI a.toInt32 :: st) σ ρ n cells slots) : om_J x (pc) (lv) (vL a :: st) σ ρ n cells slots := by
  obtain ⟨G, p, l, e, R, s, m, args, below, meth, c, nL1, Z⟩ := x
  obtain ⟨hx, hb, hml, hnL, hr, hlk, hnm, hown, hts, hK, hfr, hlo, hmc, hms⟩ := O
  intro H locs ls hP hL hl
  exact lv_l2i hx hb hd rfl (K H locs ls hP hL hl)
theorem om_i2b {x : om_X} {own nm : String} {cc : ByteArray} {nL k mc ms : Nat} {ret : Option FieldType} (O : om_Ok x own nm cc nL ret k mc ms) {pc : Nat} {lv : List (Nat × om_V)} {st : List om_V} {σ : om_S} {ρ : om_R} {n cells slots : Nat} {a : Int32} (hd : decode cc pc = .ok (.i2b, 1)) (K : om_J x (pc + 1) (lv) (vI a.toInt8.toInt32 :: st) σ ρ n cells slots) : om_J x (pc) (lv) (vI a :: st) σ ρ n cells slots := by
  obtain ⟨G, p, l, e, R, s, m, args, below, meth, c, nL1, Z⟩ := x
  obtain ⟨hx, hb, hml, hnL, hr, hlk, hnm, hown, hts, hK, hfr, hlo, hmc, hms⟩ := O
  intro H locs ls hP hL hl
  exact lv_i2b hx hb hd rfl (K H locs ls hP hL hl)
theorem om_i2s {x : om_X} {own nm : String} {cc : ByteArray} {nL k mc ms : Nat} {ret : Option FieldType} (O : om_Ok x own nm cc nL ret k mc ms) {pc : Nat} {lv : List (Nat × om_V)} {st : List om_V} {σ : om_S} {ρ : om_R} {n cells slots : Nat} {a : Int32} (hd : decode cc pc = .ok (.i2s, 1)) (K : om_J x (pc + 1) (lv) (vI a.toInt16.toInt32 :: st) σ ρ n cells slots) : om_J x (pc) (lv) (vI a :: st) σ ρ n cells slots := by
  obtain ⟨G, p, l, e, R, s, m, args, below, meth, c, nL1, Z⟩ := x
  obtain ⟨hx, hb, hml, hnL, hr, hlk, hnm, hown, hts, hK, hfr, hlo, hmc, hms⟩ := O
  intro H locs ls hP hL hl
  exact lv_i2s hx hb hd rfl (K H locs ls hP hL hl)
theorem om_ldcw {x : om_X} {own nm : String} {cc : ByteArray} {nL k mc ms : Nat} {ret : Option FieldType} (O : om_Ok x own nm cc nL ret k mc ms) {pc : Nat} {lv : List (Nat × om_V)} {st : List om_V} {σ : om_S} {ρ : om_R} {n cells slots : Nat} {index : Nat} {v : Int32} (hw : Cond.constant own index v ∈ om_tbl) (hd : decode cc pc = .ok (.ldc_w index, 3)) (K : om_J x (pc + 3) (lv) (vI v :: st) σ ρ n cells slots) : om_J x (pc) (lv) (st) σ ρ n cells slots := by
  obtain ⟨G, p, l, e, R, s, m, args, below, meth, c, nL1, Z⟩ := x
  obtain ⟨hx, hb, hml, hnL, hr, hlk, hnm, hown, hts, hK, hfr, hlo, hmc, hms⟩ := O
  intro H locs ls hP hL hl
  exact lv_ldcw hx hb hown (hts _ hw) hd (K H locs ls hP hL hl)
def om_cat : om_V → Nat
  | .inr (.inl _) => 2
  | _ => 1
theorem om_catv (G : om_G) (v : om_V) : (om_cv G v).category = om_cat v := by
  rcases v with x | x | r
  · rfl
  · rfl
  · cases r <;> rfl
theorem om_cats (G : om_G) (st : List om_V) : ((st.map (om_cv G)).map fun v => v.category).sum = (st.map om_cat).sum := by
  rw [List.map_map]
  congr 1
  exact List.map_congr_left fun v _ => om_catv G v
theorem om_dup {x : om_X} {own nm : String} {cc : ByteArray} {nL k mc ms : Nat} {ret : Option FieldType} (O : om_Ok x own nm cc nL ret k mc ms) {pc : Nat} {lv : List (Nat × om_V)} {st : List om_V} {σ : om_S} {ρ : om_R} {n cells slots : Nat} {v : om_V} (hc : om_cat v = 1) (hd : decode cc pc = .ok (.dup, 1)) (K : om_J x (pc + 1) (lv) (v :: v :: st) σ ρ n cells slots) : om_J x (pc) (lv) (v :: st) σ ρ n cells slots := by
  obtain ⟨G, p, l, e, R, s, m, args, below, meth, c, nL1, Z⟩ := x
  obtain ⟨hx, hb, hml, hnL, hr, hlk, hnm, hown, hts, hK, hfr, hlo, hmc, hms⟩ := O
  intro H locs ls hP hL hl
  exact lv_dup hx hb hd ((om_catv G v).trans hc) (K H locs ls hP hL hl)
theorem om_pop {x : om_X} {own nm : String} {cc : ByteArray} {nL k mc ms : Nat} {ret : Option FieldType} (O : om_Ok x own nm cc nL ret k mc ms) {pc : Nat} {lv : List (Nat × om_V)} {st : List om_V} {σ : om_S} {ρ : om_R} {n cells slots : Nat} {v : om_V} (hc : om_cat v = 1) (hd : decode cc pc = .ok (.pop, 1)) (K : om_J x (pc + 1) (lv) (st) σ ρ n cells slots) : om_J x (pc) (lv) (v :: st) σ ρ n cells slots := by
  obtain ⟨G, p, l, e, R, s, m, args, below, meth, c, nL1, Z⟩ := x
  obtain ⟨hx, hb, hml, hnL, hr, hlk, hnm, hown, hts, hK, hfr, hlo, hmc, hms⟩ := O
  intro H locs ls hP hL hl
  exact lv_pop hx hb hd ((om_catv G v).trans hc) (K H locs ls hP hL hl)
theorem om_dup2 {x : om_X} {own nm : String} {cc : ByteArray} {nL k mc ms : Nat} {ret : Option FieldType} (O : om_Ok x own nm cc nL ret k mc ms) {pc : Nat} {lv : List (Nat × om_V)} {st : List om_V} {σ : om_S} {ρ : om_R} {n cells slots : Nat} {u v : om_V} (hc : om_cat u = 1) (hc2 : om_cat v = 1) (hd : decode cc pc = .ok (.dup2, 1)) (K : om_J x (pc + 1) (lv) (u :: v :: u :: v :: st) σ ρ n cells slots) : om_J x (pc) (lv) (u :: v :: st) σ ρ n cells slots := by
  obtain ⟨G, p, l, e, R, s, m, args, below, meth, c, nL1, Z⟩ := x
  obtain ⟨hx, hb, hml, hnL, hr, hlk, hnm, hown, hts, hK, hfr, hlo, hmc, hms⟩ := O
  intro H locs ls hP hL hl
  exact lv_dup2_11 hx hb hd ((om_catv G u).trans hc) ((om_catv G v).trans hc2) (K H locs ls hP hL hl)
theorem om_if_eq {x : om_X} {own nm : String} {cc : ByteArray} {nL k mc ms : Nat} {ret : Option FieldType} (O : om_Ok x own nm cc nL ret k mc ms) {pc : Nat} {lv : List (Nat × om_V)} {st : List om_V} {σ : om_S} {ρ : om_R} {n cells slots : Nat} {a : Int32} {off : Int} {tgt : Nat} (hd : decode cc pc = .ok (.ifCond .eq off, 3)) (ht : (pc : Int) + off = (tgt : Int)) (K1 : a = 0 → om_J x (tgt) (lv) (st) σ ρ n cells slots) (K2 : ¬ a = 0 → om_J x (pc + 3) (lv) (st) σ ρ n cells slots) : om_J x (pc) (lv) (vI a :: st) σ ρ n cells slots := by
  obtain ⟨G, p, l, e, R, s, m, args, below, meth, c, nL1, Z⟩ := x
  obtain ⟨hx, hb, hml, hnL, hr, hlk, hnm, hown, hts, hK, hfr, hlo, hmc, hms⟩ := O
  intro H locs ls hP hL hl
  exact lv_if_eq hx hb hd ht (fun q => K1 q H locs ls hP hL hl) (fun q => K2 q H locs ls hP hL hl)
theorem om_if_lt {x : om_X} {own nm : String} {cc : ByteArray} {nL k mc ms : Nat} {ret : Option FieldType} (O : om_Ok x own nm cc nL ret k mc ms) {pc : Nat} {lv : List (Nat × om_V)} {st : List om_V} {σ : om_S} {ρ : om_R} {n cells slots : Nat} {a : Int32} {off : Int} {tgt : Nat} (hd : decode cc pc = .ok (.ifCond .lt off, 3)) (ht : (pc : Int) + off = (tgt : Int)) (K1 : a < 0 → om_J x (tgt) (lv) (st) σ ρ n cells slots) (K2 : ¬ a < 0 → om_J x (pc + 3) (lv) (st) σ ρ n cells slots) : om_J x (pc) (lv) (vI a :: st) σ ρ n cells slots := by
  obtain ⟨G, p, l, e, R, s, m, args, below, meth, c, nL1, Z⟩ := x
  obtain ⟨hx, hb, hml, hnL, hr, hlk, hnm, hown, hts, hK, hfr, hlo, hmc, hms⟩ := O
  intro H locs ls hP hL hl
  exact lv_if_lt hx hb hd ht (fun q => K1 q H locs ls hP hL hl) (fun q => K2 q H locs ls hP hL hl)
theorem om_if_ge {x : om_X} {own nm : String} {cc : ByteArray} {nL k mc ms : Nat} {ret : Option FieldType} (O : om_Ok x own nm cc nL ret k mc ms) {pc : Nat} {lv : List (Nat × om_V)} {st : List om_V} {σ : om_S} {ρ : om_R} {n cells slots : Nat} {a : Int32} {off : Int} {tgt : Nat} (hd : decode cc pc = .ok (.ifCond .ge off, 3)) (ht : (pc : Int) + off = (tgt : Int)) (K1 : 0 ≤ a → om_J x (tgt) (lv) (st) σ ρ n cells slots) (K2 : ¬ 0 ≤ a → om_J x (pc + 3) (lv) (st) σ ρ n cells slots) : om_J x (pc) (lv) (vI a :: st) σ ρ n cells slots := by
  obtain ⟨G, p, l, e, R, s, m, args, below, meth, c, nL1, Z⟩ := x
  obtain ⟨hx, hb, hml, hnL, hr, hlk, hnm, hown, hts, hK, hfr, hlo, hmc, hms⟩ := O
  intro H locs ls hP hL hl
  exact lv_if_ge hx hb hd ht (fun q => K1 q H locs ls hP hL hl) (fun q => K2 q H locs ls hP hL hl)
theorem om_if_gt {x : om_X} {own nm : String} {cc : ByteArray} {nL k mc ms : Nat} {ret : Option FieldType} (O : om_Ok x own nm cc nL ret k mc ms) {pc : Nat} {lv : List (Nat × om_V)} {st : List om_V} {σ : om_S} {ρ : om_R} {n cells slots : Nat} {a : Int32} {off : Int} {tgt : Nat} (hd : decode cc pc = .ok (.ifCond .gt off, 3)) (ht : (pc : Int) + off = (tgt : Int)) (K1 : 0 < a → om_J x (tgt) (lv) (st) σ ρ n cells slots) (K2 : ¬ 0 < a → om_J x (pc + 3) (lv) (st) σ ρ n cells slots) : om_J x (pc) (lv) (vI a :: st) σ ρ n cells slots := by
  obtain ⟨G, p, l, e, R, s, m, args, below, meth, c, nL1, Z⟩ := x
  obtain ⟨hx, hb, hml, hnL, hr, hlk, hnm, hown, hts, hK, hfr, hlo, hmc, hms⟩ := O
  intro H locs ls hP hL hl
  exact lv_if_gt hx hb hd ht (fun q => K1 q H locs ls hP hL hl) (fun q => K2 q H locs ls hP hL hl)
theorem om_if_le {x : om_X} {own nm : String} {cc : ByteArray} {nL k mc ms : Nat} {ret : Option FieldType} (O : om_Ok x own nm cc nL ret k mc ms) {pc : Nat} {lv : List (Nat × om_V)} {st : List om_V} {σ : om_S} {ρ : om_R} {n cells slots : Nat} {a : Int32} {off : Int} {tgt : Nat} (hd : decode cc pc = .ok (.ifCond .le off, 3)) (ht : (pc : Int) + off = (tgt : Int)) (K1 : a ≤ 0 → om_J x (tgt) (lv) (st) σ ρ n cells slots) (K2 : ¬ a ≤ 0 → om_J x (pc + 3) (lv) (st) σ ρ n cells slots) : om_J x (pc) (lv) (vI a :: st) σ ρ n cells slots := by
  obtain ⟨G, p, l, e, R, s, m, args, below, meth, c, nL1, Z⟩ := x
  obtain ⟨hx, hb, hml, hnL, hr, hlk, hnm, hown, hts, hK, hfr, hlo, hmc, hms⟩ := O
  intro H locs ls hP hL hl
  exact lv_if_le hx hb hd ht (fun q => K1 q H locs ls hP hL hl) (fun q => K2 q H locs ls hP hL hl)
theorem om_if_ne {x : om_X} {own nm : String} {cc : ByteArray} {nL k mc ms : Nat} {ret : Option FieldType} (O : om_Ok x own nm cc nL ret k mc ms) {pc : Nat} {lv : List (Nat × om_V)} {st : List om_V} {σ : om_S} {ρ : om_R} {n cells slots : Nat} {a : Int32} {off : Int} {tgt : Nat} (hd : decode cc pc = .ok (.ifCond .ne off, 3)) (ht : (pc : Int) + off = (tgt : Int)) (K1 : a = 0 → om_J x (pc + 3) (lv) (st) σ ρ n cells slots) (K2 : ¬ a = 0 → om_J x (tgt) (lv) (st) σ ρ n cells slots) : om_J x (pc) (lv) (vI a :: st) σ ρ n cells slots := by
  obtain ⟨G, p, l, e, R, s, m, args, below, meth, c, nL1, Z⟩ := x
  obtain ⟨hx, hb, hml, hnL, hr, hlk, hnm, hown, hts, hK, hfr, hlo, hmc, hms⟩ := O
  intro H locs ls hP hL hl
  exact lv_if_ne hx hb hd ht (fun q => K2 q H locs ls hP hL hl) (fun q => K1 q H locs ls hP hL hl)
theorem om_icmp_eq {x : om_X} {own nm : String} {cc : ByteArray} {nL k mc ms : Nat} {ret : Option FieldType} (O : om_Ok x own nm cc nL ret k mc ms) {pc : Nat} {lv : List (Nat × om_V)} {st : List om_V} {σ : om_S} {ρ : om_R} {n cells slots : Nat} {a b : Int32} {off : Int} {tgt : Nat} (hd : decode cc pc = .ok (.if_icmp .eq off, 3)) (ht : (pc : Int) + off = (tgt : Int)) (K1 : a = b → om_J x (tgt) (lv) (st) σ ρ n cells slots) (K2 : ¬ a = b → om_J x (pc + 3) (lv) (st) σ ρ n cells slots) : om_J x (pc) (lv) (vI b :: vI a :: st) σ ρ n cells slots := by
  obtain ⟨G, p, l, e, R, s, m, args, below, meth, c, nL1, Z⟩ := x
  obtain ⟨hx, hb, hml, hnL, hr, hlk, hnm, hown, hts, hK, hfr, hlo, hmc, hms⟩ := O
  intro H locs ls hP hL hl
  exact lv_icmp_eq hx hb hd ht (fun q => K1 q H locs ls hP hL hl) (fun q => K2 q H locs ls hP hL hl)
theorem om_icmp_lt {x : om_X} {own nm : String} {cc : ByteArray} {nL k mc ms : Nat} {ret : Option FieldType} (O : om_Ok x own nm cc nL ret k mc ms) {pc : Nat} {lv : List (Nat × om_V)} {st : List om_V} {σ : om_S} {ρ : om_R} {n cells slots : Nat} {a b : Int32} {off : Int} {tgt : Nat} (hd : decode cc pc = .ok (.if_icmp .lt off, 3)) (ht : (pc : Int) + off = (tgt : Int)) (K1 : a < b → om_J x (tgt) (lv) (st) σ ρ n cells slots) (K2 : ¬ a < b → om_J x (pc + 3) (lv) (st) σ ρ n cells slots) : om_J x (pc) (lv) (vI b :: vI a :: st) σ ρ n cells slots := by
  obtain ⟨G, p, l, e, R, s, m, args, below, meth, c, nL1, Z⟩ := x
  obtain ⟨hx, hb, hml, hnL, hr, hlk, hnm, hown, hts, hK, hfr, hlo, hmc, hms⟩ := O
  intro H locs ls hP hL hl
  exact lv_icmp_lt hx hb hd ht (fun q => K1 q H locs ls hP hL hl) (fun q => K2 q H locs ls hP hL hl)
theorem om_icmp_ge {x : om_X} {own nm : String} {cc : ByteArray} {nL k mc ms : Nat} {ret : Option FieldType} (O : om_Ok x own nm cc nL ret k mc ms) {pc : Nat} {lv : List (Nat × om_V)} {st : List om_V} {σ : om_S} {ρ : om_R} {n cells slots : Nat} {a b : Int32} {off : Int} {tgt : Nat} (hd : decode cc pc = .ok (.if_icmp .ge off, 3)) (ht : (pc : Int) + off = (tgt : Int)) (K1 : b ≤ a → om_J x (tgt) (lv) (st) σ ρ n cells slots) (K2 : ¬ b ≤ a → om_J x (pc + 3) (lv) (st) σ ρ n cells slots) : om_J x (pc) (lv) (vI b :: vI a :: st) σ ρ n cells slots := by
  obtain ⟨G, p, l, e, R, s, m, args, below, meth, c, nL1, Z⟩ := x
  obtain ⟨hx, hb, hml, hnL, hr, hlk, hnm, hown, hts, hK, hfr, hlo, hmc, hms⟩ := O
  intro H locs ls hP hL hl
  exact lv_icmp_ge hx hb hd ht (fun q => K1 q H locs ls hP hL hl) (fun q => K2 q H locs ls hP hL hl)
theorem om_icmp_gt {x : om_X} {own nm : String} {cc : ByteArray} {nL k mc ms : Nat} {ret : Option FieldType} (O : om_Ok x own nm cc nL ret k mc ms) {pc : Nat} {lv : List (Nat × om_V)} {st : List om_V} {σ : om_S} {ρ : om_R} {n cells slots : Nat} {a b : Int32} {off : Int} {tgt : Nat} (hd : decode cc pc = .ok (.if_icmp .gt off, 3)) (ht : (pc : Int) + off = (tgt : Int)) (K1 : b < a → om_J x (tgt) (lv) (st) σ ρ n cells slots) (K2 : ¬ b < a → om_J x (pc + 3) (lv) (st) σ ρ n cells slots) : om_J x (pc) (lv) (vI b :: vI a :: st) σ ρ n cells slots := by
  obtain ⟨G, p, l, e, R, s, m, args, below, meth, c, nL1, Z⟩ := x
  obtain ⟨hx, hb, hml, hnL, hr, hlk, hnm, hown, hts, hK, hfr, hlo, hmc, hms⟩ := O
  intro H locs ls hP hL hl
  exact lv_icmp_gt hx hb hd ht (fun q => K1 q H locs ls hP hL hl) (fun q => K2 q H locs ls hP hL hl)
theorem om_icmp_le {x : om_X} {own nm : String} {cc : ByteArray} {nL k mc ms : Nat} {ret : Option FieldType} (O : om_Ok x own nm cc nL ret k mc ms) {pc : Nat} {lv : List (Nat × om_V)} {st : List om_V} {σ : om_S} {ρ : om_R} {n cells slots : Nat} {a b : Int32} {off : Int} {tgt : Nat} (hd : decode cc pc = .ok (.if_icmp .le off, 3)) (ht : (pc : Int) + off = (tgt : Int)) (K1 : a ≤ b → om_J x (tgt) (lv) (st) σ ρ n cells slots) (K2 : ¬ a ≤ b → om_J x (pc + 3) (lv) (st) σ ρ n cells slots) : om_J x (pc) (lv) (vI b :: vI a :: st) σ ρ n cells slots := by
  obtain ⟨G, p, l, e, R, s, m, args, below, meth, c, nL1, Z⟩ := x
  obtain ⟨hx, hb, hml, hnL, hr, hlk, hnm, hown, hts, hK, hfr, hlo, hmc, hms⟩ := O
  intro H locs ls hP hL hl
  exact lv_icmp_le hx hb hd ht (fun q => K1 q H locs ls hP hL hl) (fun q => K2 q H locs ls hP hL hl)
theorem om_icmp_ne {x : om_X} {own nm : String} {cc : ByteArray} {nL k mc ms : Nat} {ret : Option FieldType} (O : om_Ok x own nm cc nL ret k mc ms) {pc : Nat} {lv : List (Nat × om_V)} {st : List om_V} {σ : om_S} {ρ : om_R} {n cells slots : Nat} {a b : Int32} {off : Int} {tgt : Nat} (hd : decode cc pc = .ok (.if_icmp .ne off, 3)) (ht : (pc : Int) + off = (tgt : Int)) (K1 : a = b → om_J x (pc + 3) (lv) (st) σ ρ n cells slots) (K2 : ¬ a = b → om_J x (tgt) (lv) (st) σ ρ n cells slots) : om_J x (pc) (lv) (vI b :: vI a :: st) σ ρ n cells slots := by
  obtain ⟨G, p, l, e, R, s, m, args, below, meth, c, nL1, Z⟩ := x
  obtain ⟨hx, hb, hml, hnL, hr, hlk, hnm, hown, hts, hK, hfr, hlo, hmc, hms⟩ := O
  intro H locs ls hP hL hl
  exact lv_icmp_ne hx hb hd ht (fun q => K2 q H locs ls hP hL hl) (fun q => K1 q H locs ls hP hL hl)
theorem om_goto {x : om_X} {own nm : String} {cc : ByteArray} {nL k mc ms : Nat} {ret : Option FieldType} (O : om_Ok x own nm cc nL ret k mc ms) {pc : Nat} {lv : List (Nat × om_V)} {st : List om_V} {σ : om_S} {ρ : om_R} {n cells slots : Nat} {off : Int} {tgt : Nat} (hd : decode cc pc = .ok (.goto off, 3)) (ht : (pc : Int) + off = (tgt : Int)) (K : om_J x (tgt) (lv) (st) σ ρ n cells slots) : om_J x (pc) (lv) (st) σ ρ n cells slots := by
  obtain ⟨G, p, l, e, R, s, m, args, below, meth, c, nL1, Z⟩ := x
  obtain ⟨hx, hb, hml, hnL, hr, hlk, hnm, hown, hts, hK, hfr, hlo, hmc, hms⟩ := O
  intro H locs ls hP hL hl
  exact lv_goto hx hb hd ht (K H locs ls hP hL hl)
theorem om_ifnullS {x : om_X} {own nm : String} {cc : ByteArray} {nL k mc ms : Nat} {ret : Option FieldType} (O : om_Ok x own nm cc nL ret k mc ms) {pc : Nat} {lv : List (Nat × om_V)} {st : List om_V} {σ : om_S} {ρ : om_R} {n cells slots : Nat} {a : Nat} {off : Int} (hd : decode cc pc = .ok (.ifnull off, 3)) (K : om_J x (pc + 3) (lv) (st) σ ρ n cells slots) : om_J x (pc) (lv) (vR (some a) :: st) σ ρ n cells slots := by
  obtain ⟨G, p, l, e, R, s, m, args, below, meth, c, nL1, Z⟩ := x
  obtain ⟨hx, hb, hml, hnL, hr, hlk, hnm, hown, hts, hK, hfr, hlo, hmc, hms⟩ := O
  intro H locs ls hP hL hl
  exact lv_ifnull hx hb hd (K H locs ls hP hL hl)
theorem om_ifnullN {x : om_X} {own nm : String} {cc : ByteArray} {nL k mc ms : Nat} {ret : Option FieldType} (O : om_Ok x own nm cc nL ret k mc ms) {pc : Nat} {lv : List (Nat × om_V)} {st : List om_V} {σ : om_S} {ρ : om_R} {n cells slots : Nat} {off : Int} {tgt : Nat} (hd : decode cc pc = .ok (.ifnull off, 3)) (ht : (pc : Int) + off = (tgt : Int)) (K : om_J x (tgt) (lv) (st) σ ρ n cells slots) : om_J x (pc) (lv) (vR none :: st) σ ρ n cells slots := by
  obtain ⟨G, p, l, e, R, s, m, args, below, meth, c, nL1, Z⟩ := x
  obtain ⟨hx, hb, hml, hnL, hr, hlk, hnm, hown, hts, hK, hfr, hlo, hmc, hms⟩ := O
  intro H locs ls hP hL hl
  exact lv_ifnullN hx hb hd ht (K H locs ls hP hL hl)
theorem om_ifnonnullS {x : om_X} {own nm : String} {cc : ByteArray} {nL k mc ms : Nat} {ret : Option FieldType} (O : om_Ok x own nm cc nL ret k mc ms) {pc : Nat} {lv : List (Nat × om_V)} {st : List om_V} {σ : om_S} {ρ : om_R} {n cells slots : Nat} {a : Nat} {off : Int} {tgt : Nat} (hd : decode cc pc = .ok (.ifnonnull off, 3)) (ht : (pc : Int) + off = (tgt : Int)) (K : om_J x (tgt) (lv) (st) σ ρ n cells slots) : om_J x (pc) (lv) (vR (some a) :: st) σ ρ n cells slots := by
  obtain ⟨G, p, l, e, R, s, m, args, below, meth, c, nL1, Z⟩ := x
  obtain ⟨hx, hb, hml, hnL, hr, hlk, hnm, hown, hts, hK, hfr, hlo, hmc, hms⟩ := O
  intro H locs ls hP hL hl
  exact lv_ifnonnull hx hb hd ht (K H locs ls hP hL hl)
theorem om_ifnonnullN {x : om_X} {own nm : String} {cc : ByteArray} {nL k mc ms : Nat} {ret : Option FieldType} (O : om_Ok x own nm cc nL ret k mc ms) {pc : Nat} {lv : List (Nat × om_V)} {st : List om_V} {σ : om_S} {ρ : om_R} {n cells slots : Nat} {off : Int} (hd : decode cc pc = .ok (.ifnonnull off, 3)) (K : om_J x (pc + 3) (lv) (st) σ ρ n cells slots) : om_J x (pc) (lv) (vR none :: st) σ ρ n cells slots := by
  obtain ⟨G, p, l, e, R, s, m, args, below, meth, c, nL1, Z⟩ := x
  obtain ⟨hx, hb, hml, hnL, hr, hlk, hnm, hown, hts, hK, hfr, hlo, hmc, hms⟩ := O
  intro H locs ls hP hL hl
  exact lv_ifnonnullN hx hb hd (K H locs ls hP hL hl)
theorem om_lookup {x : om_X} {own nm : String} {cc : ByteArray} {nL k mc ms : Nat} {ret : Option FieldType} (O : om_Ok x own nm cc nL ret k mc ms) {pc : Nat} {lv : List (Nat × om_V)} {st : List om_V} {σ : om_S} {ρ : om_R} {n cells slots : Nat} {dflt : Int} {ps : Array (Int × Int)} {len : Nat} {a : Int32} {off : Int} {tgt : Nat} (hd : decode cc pc = .ok (.lookupswitch dflt ps, len)) (hp : (ps.toList.zip (ps.toList.drop 1)).all (fun (a, next) => a.1 < next.1) = true) (ho : Op.lookupswitch.offset ps.toList dflt a.toInt = off) (ht : (pc : Int) + off = (tgt : Int)) (K : om_J x (tgt) (lv) (st) σ ρ n cells slots) : om_J x (pc) (lv) (vI a :: st) σ ρ n cells slots := by
  obtain ⟨G, p, l, e, R, s, m, args, below, meth, c, nL1, Z⟩ := x
  obtain ⟨hx, hb, hml, hnL, hr, hlk, hnm, hown, hts, hK, hfr, hlo, hmc, hms⟩ := O
  intro H locs ls hP hL hl
  exact lv_lookup hx hb hd hp ho ht (K H locs ls hP hL hl)
theorem om_tblIn {x : om_X} {own nm : String} {cc : ByteArray} {nL k mc ms : Nat} {ret : Option FieldType} (O : om_Ok x own nm cc nL ret k mc ms) {pc : Nat} {lv : List (Nat × om_V)} {st : List om_V} {σ : om_S} {ρ : om_R} {n cells slots : Nat} {dflt lo hi : Int} {offs : Array Int} {len : Nat} {a b : Int32} {off : Int} {tgt : Nat} (hd : decode cc pc = .ok (.tableswitch dflt lo hi offs, len)) (eab : a = b) (h1 : ¬ b.toInt < lo) (h2 : ¬ hi < b.toInt) (ho : offs[(b.toInt - lo).toNat]? = some off) (ht : (pc : Int) + off = (tgt : Int)) (K : om_J x (tgt) (lv) (st) σ ρ n cells slots) : om_J x (pc) (lv) (vI a :: st) σ ρ n cells slots := by
  obtain ⟨G, p, l, e, R, s, m, args, below, meth, c, nL1, Z⟩ := x
  obtain ⟨hx, hb, hml, hnL, hr, hlk, hnm, hown, hts, hK, hfr, hlo, hmc, hms⟩ := O
  intro H locs ls hP hL hl
  subst eab
  exact lv_tableIn hx hb hd h1 h2 ho ht (K H locs ls hP hL hl)
theorem om_tblDef {x : om_X} {own nm : String} {cc : ByteArray} {nL k mc ms : Nat} {ret : Option FieldType} (O : om_Ok x own nm cc nL ret k mc ms) {pc : Nat} {lv : List (Nat × om_V)} {st : List om_V} {σ : om_S} {ρ : om_R} {n cells slots : Nat} {dflt lo hi : Int} {offs : Array Int} {len : Nat} {a : Int32} {tgt : Nat} (hd : decode cc pc = .ok (.tableswitch dflt lo hi offs, len)) (h : ∀ v : Int, v = a.toInt → lo ≤ v → v ≤ hi → offs[(v - lo).toNat]? = some dflt) (ht : (pc : Int) + dflt = (tgt : Int)) (K : om_J x (tgt) (lv) (st) σ ρ n cells slots) : om_J x (pc) (lv) (vI a :: st) σ ρ n cells slots := by
  obtain ⟨G, p, l, e, R, s, m, args, below, meth, c, nL1, Z⟩ := x
  obtain ⟨hx, hb, hml, hnL, hr, hlk, hnm, hown, hts, hK, hfr, hlo, hmc, hms⟩ := O
  intro H locs ls hP hL hl
  have K' := K H locs ls hP hL hl
  by_cases h1 : a.toInt < lo ∨ hi < a.toInt
  · exact lv_tableOut hx hb hd h1 ht K'
  · exact lv_tableIn hx hb hd (fun q => h1 (Or.inl q)) (fun q => h1 (Or.inr q)) (h _ rfl (by omega) (by omega)) ht K'
theorem om_getI {x : om_X} {own nm : String} {cc : ByteArray} {nL k mc ms : Nat} {ret : Option FieldType} (O : om_Ok x own nm cc nL ret k mc ms) {pc : Nat} {lv : List (Nat × om_V)} {st : List om_V} {σ : om_S} {ρ : om_R} {n cells slots : Nat} {C : String} {T : u_T} {N ci j idx q : Nat} (hc : vwCl[ci]? = some (C, T, N)) (hci : ci < 20) (hN : N = om_nf ci) (hin : ∀ w ∈ u_ws C T N, w ∈ om_tbl) (hj : j < N) (hT : (T j).1 = C) (hlink : Cond.fieldLink own idx C (T j).2.1 (T j).2.2.1 ∈ om_tbl) (hi : om_isr ci j = false) (hq : om_kc q = ci) (hqn : q < n) (hd : decode cc pc = .ok (.getfield idx, 3)) (K : om_J x (pc + 3) (lv) (vI (σ q j) :: st) σ ρ n cells slots) : om_J x (pc) (lv) (vR (some q) :: st) σ ρ n cells slots := by
  obtain ⟨G, p, l, e, R, s, m, args, below, meth, c, nL1, Z⟩ := x
  obtain ⟨hx, hb, hml, hnL, hr, hlk, hnm, hown, hts, hK, hfr, hlo, hmc, hms⟩ := O
  intro H locs ls hP hL hl
  subst hN
  exact va_get hx hb hts hin hown hK.1 hP.1 q ((om_ws_at hqn).trans (by rw [om_ent_o hq hci])) hc j hj (hts _ hlink) (fun y h9 => by rw [hT] at h9; exact h9) (om_fs_i hj hi) hd (K H locs ls hP hL hl)
theorem om_getR {x : om_X} {own nm : String} {cc : ByteArray} {nL k mc ms : Nat} {ret : Option FieldType} (O : om_Ok x own nm cc nL ret k mc ms) {pc : Nat} {lv : List (Nat × om_V)} {st : List om_V} {σ : om_S} {ρ : om_R} {n cells slots : Nat} {C : String} {T : u_T} {N ci j idx q : Nat} (hc : vwCl[ci]? = some (C, T, N)) (hci : ci < 20) (hN : N = om_nf ci) (hin : ∀ w ∈ u_ws C T N, w ∈ om_tbl) (hj : j < N) (hT : (T j).1 = C) (hlink : Cond.fieldLink own idx C (T j).2.1 (T j).2.2.1 ∈ om_tbl) (hi : om_isr ci j = true) (hq : om_kc q = ci) (hqn : q < n) (hd : decode cc pc = .ok (.getfield idx, 3)) (K : om_J x (pc + 3) (lv) (vR (ρ q j) :: st) σ ρ n cells slots) : om_J x (pc) (lv) (vR (some q) :: st) σ ρ n cells slots := by
  obtain ⟨G, p, l, e, R, s, m, args, below, meth, c, nL1, Z⟩ := x
  obtain ⟨hx, hb, hml, hnL, hr, hlk, hnm, hown, hts, hK, hfr, hlo, hmc, hms⟩ := O
  intro H locs ls hP hL hl
  subst hN
  exact va_get hx hb hts hin hown hK.1 hP.1 q ((om_ws_at hqn).trans (by rw [om_ent_o hq hci])) hc j hj (hts _ hlink) (fun y h9 => by rw [hT] at h9; exact h9) (om_fs_r hj hi) hd (K H locs ls hP hL hl)
theorem om_nar {ty : FieldType} {v : Int32} (h : ty = .int ∨ (ty = .boolean ∧ (v = 0 ∨ v = 1))) : narrow ty (.int v) = .int v ∧ fits ty (.int v) = true := by
  rcases h with rfl | ⟨rfl, rfl | rfl⟩ <;> exact ⟨rfl, rfl⟩
theorem om_hsz {D : va_G} {ws : va_W} {H H1 : Heap} {A : Nat → Prop} {H0 : Heap} {n : Nat} (h1 : H.size = H0.size + n) (h2 : H1.size = H.size) : H1.size = H0.size + n := h2.trans h1
theorem om_putI {x : om_X} {own nm : String} {cc : ByteArray} {nL k mc ms : Nat} {ret : Option FieldType} (O : om_Ok x own nm cc nL ret k mc ms) {pc : Nat} {lv : List (Nat × om_V)} {st : List om_V} {σ : om_S} {ρ : om_R} {n cells slots : Nat} {C : String} {T : u_T} {N ci j idx q : Nat} {ty : FieldType} {v : Int32} {σ1 : om_S} (hc : vwCl[ci]? = some (C, T, N)) (hci : ci < 20) (hN : N = om_nf ci) (hin : ∀ w ∈ u_ws C T N, w ∈ om_tbl) (hj : j < N) (hT : (T j).1 = C) (hlink : Cond.fieldLink own idx C (T j).2.1 (T j).2.2.1 ∈ om_tbl) (ty0 : Nat → FieldType) (hty : ∀ k, k < N → parseFieldDescriptor (T k).2.2.1 = some (ty0 k)) (hnm2 : ∀ a, a < N → ∀ b, b < N → a ≠ b → (T a).2.1 ≠ (T b).2.1) (hfin : (T j).2.2.2 = false) (hv : ty = .int ∨ (ty = .boolean ∧ (v = 0 ∨ v = 1))) (hdsc : parseFieldDescriptor (T j).2.2.1 = some ty) (hi : om_isr ci j = false) (hq : om_kc q = ci) (hqn : q < n) (hd : decode cc pc = .ok (.putfield idx, 3)) (hs : om_w σ q j v = σ1) (K : om_J x (pc + 3) (lv) (st) σ1 ρ n cells slots) : om_J x (pc) (lv) (vI v :: vR (some q) :: st) σ ρ n cells slots := by
  obtain ⟨G, p, l, e, R, s, m, args, below, meth, c, nL1, Z⟩ := x
  obtain ⟨hx, hb, hml, hnL, hr, hlk, hnm, hown, hts, hK, hfr, hlo, hmc, hms⟩ := O
  intro H locs ls hP hL hl
  subst hN
  subst hs
  obtain ⟨g1, g2⟩ := om_nar hv
  obtain ⟨rr, h1r, cell, q1, q2, q3, q4⟩ := hP.1 q _ ((om_ws_at hqn).trans (by rw [om_ent_o hq hci]))
  have hr' : rr = (C, T, om_nf ci) := Option.some.inj (h1r.symm.trans hc)
  subst hr'
  have hap := va_apart (own := own) hts hin ty0 hty hnm2 hK.1 hc
  obtain ⟨hSl, hfc, kC, hkC, hkind⟩ := hK.1.1 ci _ hc
  obtain ⟨cf, kf, fi, f, hfi, hsl⟩ := hSl j hj
  have he : (om_ws G σ ρ n)[q]? = some (om_ad G q, .inr (ci, om_fs G σ ρ ci q)) := (om_ws_at hqn).trans (by rw [om_ent_o hq hci])
  have hlay := hts _ (hin _ (u_in_lay hj))
  unfold u_lay at hlay
  have hst := (u_facts hfc hkC (u_lays hts hin hj) hfi).1
  have hpost : ∀ H' : Heap, H'[om_ad G q]? = some (cell.setSlot f.slot (.int v)) → H'.size = H.size → (∀ a : Nat, a ≠ om_ad G q → H'[a]? = H[a]?) → om_Rep G (om_w σ q j v) ρ n H' := by
    intro H' e1 e2 e3
    rw [hsl] at e1
    have hA : om_A G (om_ad G q) := by
      rw [om_adN (Nat.lt_of_lt_of_le hqn hP.2.2.2.1)]
      exact Nat.le_add_right _ _
    refine hP.put (k := q) (e := .inr (ci, (om_fs G σ ρ ci q).set j (.int v))) e2 hqn (fun a ha => om_w_off ha) (fun _ _ => rfl) ((om_ent_o hq hci).trans (by rw [om_fs_put hi])) ?_ (hP.2.1.set he) ((om_S0 hP hL).put e2 e3 hA (k := 0))
    exact hP.1.set hP.2.1 he ⟨_, hc, t_OB.to (V := updV (vp_V (om_fs G σ ρ ci q)) j (.int v)) ⟨_, e1, q2, q3, t_set q4 hap hj (.int v)⟩ (fun i _ => vp_updV_set (by rw [om_fs_len]; exact hj) (.int v) i)⟩ e3
  have hA : om_A G (om_ad G q) := by
    rw [om_adN (Nat.lt_of_lt_of_le hqn hP.2.2.2.1)]
    exact Nat.le_add_right _ _
  rw [if_neg (by rw [hfin]; decide)] at hlay
  have h6 := u_store hfc hkC hkind hlay hfi hdsc g1 g2
  refine W.putK hx hb (f := f) ⟨hown, hts _ hlink, ⟨_, _, _, by rw [hT] at hfi; exact hfi⟩, hst⟩ (by rw [q2]; exact h6) q1 q3 (by rw [hsl]; exact k2_hasslot (q4 j hj)) rfl rfl hd fun H' e1 e2 e3 => ?_
  exact K H' _ ls (hpost H' e1 e2 e3) (fun q' hq' => by
    rcases List.mem_append.mp hq' with h | h
    · exact hL q' h
    · rw [List.mem_singleton.mp h]; exact hA) hl
theorem om_putFI {x : om_X} {own nm : String} {cc : ByteArray} {nL k mc ms : Nat} {ret : Option FieldType} (O : om_Ok x own nm cc nL ret k mc ms) {pc : Nat} {lv : List (Nat × om_V)} {st : List om_V} {σ : om_S} {ρ : om_R} {n cells slots : Nat} {C : String} {T : u_T} {N ci j idx q : Nat} {ty : FieldType} {v : Int32} {σ1 : om_S} (hc : vwCl[ci]? = some (C, T, N)) (hci : ci < 20) (hN : N = om_nf ci) (hin : ∀ w ∈ u_ws C T N, w ∈ om_tbl) (hj : j < N) (hT : (T j).1 = C) (hlink : Cond.fieldLink own idx C (T j).2.1 (T j).2.2.1 ∈ om_tbl) (ty0 : Nat → FieldType) (hty : ∀ k, k < N → parseFieldDescriptor (T k).2.2.1 = some (ty0 k)) (hnm2 : ∀ a, a < N → ∀ b, b < N → a ≠ b → (T a).2.1 ≠ (T b).2.1) (hfin : (T j).2.2.2 = true) (hini : nm = "<init>") (hdecl : C = own) (hv : ty = .int ∨ (ty = .boolean ∧ (v = 0 ∨ v = 1))) (hdsc : parseFieldDescriptor (T j).2.2.1 = some ty) (hi : om_isr ci j = false) (hq : om_kc q = ci) (hqn : q < n) (hd : decode cc pc = .ok (.putfield idx, 3)) (hs : om_w σ q j v = σ1) (K : om_J x (pc + 3) (lv) (st) σ1 ρ n cells slots) : om_J x (pc) (lv) (vI v :: vR (some q) :: st) σ ρ n cells slots := by
  obtain ⟨G, p, l, e, R, s, m, args, below, meth, c, nL1, Z⟩ := x
  obtain ⟨hx, hb, hml, hnL, hr, hlk, hnm, hown, hts, hK, hfr, hlo, hmc, hms⟩ := O
  intro H locs ls hP hL hl
  subst hN
  subst hs
  obtain ⟨g1, g2⟩ := om_nar hv
  obtain ⟨rr, h1r, cell, q1, q2, q3, q4⟩ := hP.1 q _ ((om_ws_at hqn).trans (by rw [om_ent_o hq hci]))
  have hr' : rr = (C, T, om_nf ci) := Option.some.inj (h1r.symm.trans hc)
  subst hr'
  have hap := va_apart (own := own) hts hin ty0 hty hnm2 hK.1 hc
  obtain ⟨hSl, hfc, kC, hkC, hkind⟩ := hK.1.1 ci _ hc
  obtain ⟨cf, kf, fi, f, hfi, hsl⟩ := hSl j hj
  have he : (om_ws G σ ρ n)[q]? = some (om_ad G q, .inr (ci, om_fs G σ ρ ci q)) := (om_ws_at hqn).trans (by rw [om_ent_o hq hci])
  have hlay := hts _ (hin _ (u_in_lay hj))
  unfold u_lay at hlay
  have hst := (u_facts hfc hkC (u_lays hts hin hj) hfi).1
  have hpost : ∀ H' : Heap, H'[om_ad G q]? = some (cell.setSlot f.slot (.int v)) → H'.size = H.size → (∀ a : Nat, a ≠ om_ad G q → H'[a]? = H[a]?) → om_Rep G (om_w σ q j v) ρ n H' := by
    intro H' e1 e2 e3
    rw [hsl] at e1
    have hA : om_A G (om_ad G q) := by
      rw [om_adN (Nat.lt_of_lt_of_le hqn hP.2.2.2.1)]
      exact Nat.le_add_right _ _
    refine hP.put (k := q) (e := .inr (ci, (om_fs G σ ρ ci q).set j (.int v))) e2 hqn (fun a ha => om_w_off ha) (fun _ _ => rfl) ((om_ent_o hq hci).trans (by rw [om_fs_put hi])) ?_ (hP.2.1.set he) ((om_S0 hP hL).put e2 e3 hA (k := 0))
    exact hP.1.set hP.2.1 he ⟨_, hc, t_OB.to (V := updV (vp_V (om_fs G σ ρ ci q)) j (.int v)) ⟨_, e1, q2, q3, t_set q4 hap hj (.int v)⟩ (fun i _ => vp_updV_set (by rw [om_fs_len]; exact hj) (.int v) i)⟩ e3
  have hA : om_A G (om_ad G q) := by
    rw [om_adN (Nat.lt_of_lt_of_le hqn hP.2.2.2.1)]
    exact Nat.le_add_right _ _
  rw [if_pos hfin] at hlay
  have hcf : m.cls = cf := by
    obtain ⟨_, _, c', _, _, _, -, -, hf', -, -, -, hown2, -⟩ := Cond.laysFinal_spec hlay
    have e1 : c' = cf := by have := hfi.symm.trans hf'; simp at this; exact this.1.symm
    rw [hT, hdecl] at hown2
    rw [← e1]; exact Option.some.inj (hown.symm.trans hown2)
  have h6 := u_fits hfc hkC hkind (Or.inr hlay) hfi hdsc g1 g2
  refine W.putFinK hx hb hown (hts _ hlink) (by rw [hT] at hfi; exact hfi) hst hcf (hnm.trans hini) (by rw [q2]; exact h6) q1 q3 (by rw [hsl]; exact k2_hasslot (q4 j hj)) rfl rfl hd fun H' e1 e2 e3 => ?_
  exact K H' _ ls (hpost H' e1 e2 e3) (fun q' hq' => by
    rcases List.mem_append.mp hq' with h | h
    · exact hL q' h
    · rw [List.mem_singleton.mp h]; exact hA) hl
theorem om_iald {x : om_X} {own nm : String} {cc : ByteArray} {nL k mc ms : Nat} {ret : Option FieldType} (O : om_Ok x own nm cc nL ret k mc ms) {pc : Nat} {lv : List (Nat × om_V)} {st : List om_V} {σ : om_S} {ρ : om_R} {n cells slots : Nat} {i : Int32} {a : Nat} (hq : om_kc a = 20) (hqn : a < n) (hin : om_in i (om_al a)) (hd : decode cc pc = .ok (.iaload, 1)) (K : om_J x (pc + 1) (lv) (vI (σ a i.toNatClampNeg) :: st) σ ρ n cells slots) : om_J x (pc) (lv) (vI i :: vR (some a) :: st) σ ρ n cells slots := by
  obtain ⟨G, p, l, e, R, s, m, args, below, meth, c, nL1, Z⟩ := x
  obtain ⟨hx, hb, hml, hnL, hr, hlk, hnm, hown, hts, hK, hfr, hlo, hmc, hms⟩ := O
  intro H locs ls hP hL hl
  exact va_iald hx hb hK.1 hP.1 a 0 ((om_ws_at hqn).trans (by rw [om_ent_i hq])) rfl hin hd (K H locs ls hP hL hl)
theorem om_alen {x : om_X} {own nm : String} {cc : ByteArray} {nL k mc ms : Nat} {ret : Option FieldType} (O : om_Ok x own nm cc nL ret k mc ms) {pc : Nat} {lv : List (Nat × om_V)} {st : List om_V} {σ : om_S} {ρ : om_R} {n cells slots : Nat} {a : Nat} {v : Int32} (hq : om_kc a = 20) (hqn : a < n) (hv : Int32.ofNat (om_al a) = v) (hd : decode cc pc = .ok (.arraylength, 1)) (K : om_J x (pc + 1) (lv) (vI v :: st) σ ρ n cells slots) : om_J x (pc) (lv) (vR (some a) :: st) σ ρ n cells slots := by
  obtain ⟨G, p, l, e, R, s, m, args, below, meth, c, nL1, Z⟩ := x
  obtain ⟨hx, hb, hml, hnL, hr, hlk, hnm, hown, hts, hK, hfr, hlo, hmc, hms⟩ := O
  intro H locs ls hP hL hl
  exact va_alen hx hb hK.1 hP.1 a 0 ((om_ws_at hqn).trans (by rw [om_ent_i hq])) rfl hv hd (K H locs ls hP hL hl)
theorem om_alenM {x : om_X} {own nm : String} {cc : ByteArray} {nL k mc ms : Nat} {ret : Option FieldType} (O : om_Ok x own nm cc nL ret k mc ms) {pc : Nat} {lv : List (Nat × om_V)} {st : List om_V} {σ : om_S} {ρ : om_R} {n cells slots : Nat} {a : Nat} {v : Int32} (hq : om_kc a = 21) (hqn : a < n) (hv : Int32.ofNat (om_al a) = v) (hd : decode cc pc = .ok (.arraylength, 1)) (K : om_J x (pc + 1) (lv) (vI v :: st) σ ρ n cells slots) : om_J x (pc) (lv) (vR (some a) :: st) σ ρ n cells slots := by
  obtain ⟨G, p, l, e, R, s, m, args, below, meth, c, nL1, Z⟩ := x
  obtain ⟨hx, hb, hml, hnL, hr, hlk, hnm, hown, hts, hK, hfr, hlo, hmc, hms⟩ := O
  intro H locs ls hP hL hl
  exact va_alen hx hb hK.1 hP.1 a 1 ((om_ws_at hqn).trans (by rw [om_ent_m hq])) rfl hv hd (K H locs ls hP hL hl)
theorem om_alenS {x : om_X} {own nm : String} {cc : ByteArray} {nL k mc ms : Nat} {ret : Option FieldType} (O : om_Ok x own nm cc nL ret k mc ms) {pc : Nat} {lv : List (Nat × om_V)} {st : List om_V} {σ : om_S} {ρ : om_R} {n cells slots : Nat} {a : Nat} {v : Int32} (hq : om_kc a = 22) (hqn : a < n) (hv : Int32.ofNat (om_al a) = v) (hd : decode cc pc = .ok (.arraylength, 1)) (K : om_J x (pc + 1) (lv) (vI v :: st) σ ρ n cells slots) : om_J x (pc) (lv) (vR (some a) :: st) σ ρ n cells slots := by
  obtain ⟨G, p, l, e, R, s, m, args, below, meth, c, nL1, Z⟩ := x
  obtain ⟨hx, hb, hml, hnL, hr, hlk, hnm, hown, hts, hK, hfr, hlo, hmc, hms⟩ := O
  intro H locs ls hP hL hl
  exact va_alen hx hb hK.1 hP.1 a 2 ((om_ws_at hqn).trans (by rw [om_ent_s hq])) rfl hv hd (K H locs ls hP hL hl)
theorem om_rs_at {G : om_G} {ρ : om_R} {a : Nat} {i : Int32} (hin : om_in i (om_al a)) : va_rf (om_rs G ρ a i.toNatClampNeg) = om_cv G (vR (ρ a i.toNatClampNeg)) := by
  have h : i.toNatClampNeg < om_al a := Nat.not_le.mp fun q => hin (Or.inr q)
  unfold om_rs
  rw [if_pos h]
  rfl
theorem om_aaldM {x : om_X} {own nm : String} {cc : ByteArray} {nL k mc ms : Nat} {ret : Option FieldType} (O : om_Ok x own nm cc nL ret k mc ms) {pc : Nat} {lv : List (Nat × om_V)} {st : List om_V} {σ : om_S} {ρ : om_R} {n cells slots : Nat} {i : Int32} {a : Nat} (hq : om_kc a = 21) (hqn : a < n) (hin : om_in i (om_al a)) (hd : decode cc pc = .ok (.aaload, 1)) (K : om_J x (pc + 1) (lv) (vR (ρ a i.toNatClampNeg) :: st) σ ρ n cells slots) : om_J x (pc) (lv) (vI i :: vR (some a) :: st) σ ρ n cells slots := by
  obtain ⟨G, p, l, e, R, s, m, args, below, meth, c, nL1, Z⟩ := x
  obtain ⟨hx, hb, hml, hnL, hr, hlk, hnm, hown, hts, hK, hfr, hlo, hmc, hms⟩ := O
  intro H locs ls hP hL hl
  exact va_aldq hx hb hK.1 hP.1 a 1 ((om_ws_at hqn).trans (by rw [om_ent_m hq])) rfl hin hd (by rw [om_rs_at hin]; exact K H locs ls hP hL hl)
theorem om_aaldS {x : om_X} {own nm : String} {cc : ByteArray} {nL k mc ms : Nat} {ret : Option FieldType} (O : om_Ok x own nm cc nL ret k mc ms) {pc : Nat} {lv : List (Nat × om_V)} {st : List om_V} {σ : om_S} {ρ : om_R} {n cells slots : Nat} {i : Int32} {a : Nat} (hq : om_kc a = 22) (hqn : a < n) (hin : om_in i (om_al a)) (hd : decode cc pc = .ok (.aaload, 1)) (K : om_J x (pc + 1) (lv) (vR (ρ a i.toNatClampNeg) :: st) σ ρ n cells slots) : om_J x (pc) (lv) (vI i :: vR (some a) :: st) σ ρ n cells slots := by
  obtain ⟨G, p, l, e, R, s, m, args, below, meth, c, nL1, Z⟩ := x
  obtain ⟨hx, hb, hml, hnL, hr, hlk, hnm, hown, hts, hK, hfr, hlo, hmc, hms⟩ := O
  intro H locs ls hP hL hl
  exact va_aldq hx hb hK.1 hP.1 a 2 ((om_ws_at hqn).trans (by rw [om_ent_s hq])) rfl hin hd (by rw [om_rs_at hin]; exact K H locs ls hP hL hl)
theorem om_iast {x : om_X} {own nm : String} {cc : ByteArray} {nL k mc ms : Nat} {ret : Option FieldType} (O : om_Ok x own nm cc nL ret k mc ms) {pc : Nat} {lv : List (Nat × om_V)} {st : List om_V} {σ : om_S} {ρ : om_R} {n cells slots : Nat} {i v : Int32} {a : Nat} {σ1 : om_S} (hq : om_kc a = 20) (hqn : a < n) (hin : om_in i (om_al a)) (hd : decode cc pc = .ok (.iastore, 1)) (hs : om_w σ a i.toNatClampNeg v = σ1) (K : om_J x (pc + 1) (lv) (st) σ1 ρ n cells slots) : om_J x (pc) (lv) (vI v :: vI i :: vR (some a) :: st) σ ρ n cells slots := by
  obtain ⟨G, p, l, e, R, s, m, args, below, meth, c, nL1, Z⟩ := x
  obtain ⟨hx, hb, hml, hnL, hr, hlk, hnm, hown, hts, hK, hfr, hlo, hmc, hms⟩ := O
  intro H locs ls hP hL hl
  subst hs
  have he : (om_ws G σ ρ n)[a]? = some (om_ad G a, .inl (G.2.2.1.1, om_al a, .inl (σ a))) := (om_ws_at hqn).trans (by rw [om_ent_i hq])
  have hA : om_A G (om_ad G a) := by
    rw [om_adN (Nat.lt_of_lt_of_le hqn hP.2.2.2.1)]
    exact Nat.le_add_right _ _
  refine W.iast hx hb (hP.1 a _ he) ((hK.1.2 0 _ rfl).1 (om_al a) (fun j => .int (σ a j))) (fun q => by cases q) (by show ¬ (i < 0 ∨ (arrV _ _ _).slots.size ≤ _); rw [arrV_size]; exact hin) rfl rfl hd fun H1 e1 e2 e3 => ?_
  have hR : om_Rep G (om_w σ a i.toNatClampNeg v) ρ n H1 := by
    refine hP.put (k := a) (e := .inl (G.2.2.1.1, om_al a, .inl (upd (σ a) i.toNatClampNeg v))) e2 hqn (fun a ha => om_w_off ha) (fun _ _ => rfl) ((om_ent_i hq).trans ?_) ?_ (hP.2.1.set he) ((om_S0 hP hL).put e2 e3 hA (k := 0))
    · have h9 : om_w σ a i.toNatClampNeg v a = upd (σ a) i.toNatClampNeg v := by
        funext q
        by_cases hj : q = i.toNatClampNeg
        · subst hj
          simp [om_w, upd]
        · simp [om_w, upd, hj]
      rw [h9]
    · refine hP.1.set hP.2.1 he ?_ e3
      show H1[om_ad G a]? = some (vp_cell _ _)
      rw [e1]
      rw [vp_cell_i, vp_cell_i, arrV_store]
      congr 2
      funext q
      by_cases hj : q = i.toNatClampNeg
      · subst hj
        simp [updV, upd]
      · simp [updV, upd, hj]
  exact K H1 _ ls hR (fun q' hq' => by
    rcases List.mem_append.mp hq' with h | h
    · exact hL q' h
    · rw [List.mem_singleton.mp h]; exact hA) hl
theorem om_getKA {x : om_X} {own nm : String} {cc : ByteArray} {nL k mc ms : Nat} {ret : Option FieldType} (O : om_Ok x own nm cc nL ret k mc ms) {pc : Nat} {lv : List (Nat × om_V)} {st : List om_V} {σ : om_S} {ρ : om_R} {n cells slots : Nat} {idx : Nat} (hw : ∀ U : State, om_Nw U → va_Nw (.fieldLinkNest own idx "OilMemories" "KIND_ABOVE" "[I" "OilMemories") U) (hd : decode cc pc = .ok (.getstatic idx, 3)) (K : om_J x (pc + 3) (lv) (vR (some 900) :: st) σ ρ n cells slots) : om_J x (pc) (lv) (st) σ ρ n cells slots := by
  obtain ⟨G, p, l, e, R, s, m, args, below, meth, c, nL1, Z⟩ := x
  obtain ⟨hx, hb, hml, hnL, hr, hlk, hnm, hown, hts, hK, hfr, hlo, hmc, hms⟩ := O
  intro H locs ls hP hL hl
  obtain ⟨cf, kf, fi, f, a, cell, h1, h2, h3, h4, h5, h6, h7, h8⟩ := hK.2.1
  exact va_WgetsN hx hb hown (va_Nw.use rfl (hw s hK.2.2.2.2.2)) h1 h2 h3 h4 (by rw [hP.2.2.2.2 a (Array.getElem?_eq_some_iff.mp h5).1]; exact h5) (fun e9 => by rw [e9] at h6; cases h6) h7 rfl hd (K H locs ls hP hL hl)
theorem om_kaLen {x : om_X} {own nm : String} {cc : ByteArray} {nL k mc ms : Nat} {ret : Option FieldType} (O : om_Ok x own nm cc nL ret k mc ms) {pc : Nat} {lv : List (Nat × om_V)} {st : List om_V} {σ : om_S} {ρ : om_R} {n cells slots : Nat}  (hd : decode cc pc = .ok (.arraylength, 1)) (K : om_J x (pc + 1) (lv) (vI 7 :: st) σ ρ n cells slots) : om_J x (pc) (lv) (vR (some 900) :: st) σ ρ n cells slots := by
  obtain ⟨G, p, l, e, R, s, m, args, below, meth, c, nL1, Z⟩ := x
  obtain ⟨hx, hb, hml, hnL, hr, hlk, hnm, hown, hts, hK, hfr, hlo, hmc, hms⟩ := O
  intro H locs ls hP hL hl
  obtain ⟨cell, h1, h2, h3, h4, h5, h6, h7⟩ := hK.2.2.1
  exact W.alen (n := 7) hx hb (show H[om_ad G 900]? = some cell from (hP.2.2.2.2 _ (Array.getElem?_eq_some_iff.mp h1).1).trans h1) h2 h5 rfl rfl hd (K H locs ls hP hL hl)
theorem om_kaLd {x : om_X} {own nm : String} {cc : ByteArray} {nL k mc ms : Nat} {ret : Option FieldType} (O : om_Ok x own nm cc nL ret k mc ms) {pc : Nat} {lv : List (Nat × om_V)} {st : List om_V} {σ : om_S} {ρ : om_R} {n cells slots : Nat} {i : Int32} (hin : om_in i 7) (hd : decode cc pc = .ok (.iaload, 1)) (K : om_J x (pc + 1) (lv) (vI (om_ka i.toNatClampNeg) :: st) σ ρ n cells slots) : om_J x (pc) (lv) (vI i :: vR (some 900) :: st) σ ρ n cells slots := by
  obtain ⟨G, p, l, e, R, s, m, args, below, meth, c, nL1, Z⟩ := x
  obtain ⟨hx, hb, hml, hnL, hr, hlk, hnm, hown, hts, hK, hfr, hlo, hmc, hms⟩ := O
  intro H locs ls hP hL hl
  obtain ⟨cell, h1, h2, h3, h4, h5, h6, h7⟩ := hK.2.2.1
  have hlt : i.toNatClampNeg < 7 := Nat.not_le.mp fun q => hin (Or.inr q)
  have hin' : ¬ (i < 0 ∨ cell.slots.size ≤ i.toNatClampNeg) := by
    intro q
    rcases q with q | q
    · exact hin (Or.inl q)
    · omega
  exact W.iald (v := .int (om_ka i.toNatClampNeg)) hx hb (show H[om_ad G 900]? = some cell from (hP.2.2.2.2 _ (Array.getElem?_eq_some_iff.mp h1).1).trans h1) h2 h3 hin' (by rw [h6 _ hlt]) rfl rfl hd (K H locs ls hP hL hl)
def om_Sc : om_X → Nat → (Nat → Int32) → Prop
  | (G, _, _, _, _, s, _, _, _, _, _, _, _), L, xs => va_X G.2.2.2.2.1 L xs s G.2.1 ∧ G.2.2.2.2.1 < G.2.1.size
theorem om_sLen {x : om_X} {own nm : String} {cc : ByteArray} {nL k mc ms : Nat} {ret : Option FieldType} (O : om_Ok x own nm cc nL ret k mc ms) {pc : Nat} {lv : List (Nat × om_V)} {st : List om_V} {σ : om_S} {ρ : om_R} {n cells slots : Nat} {L : Nat} {xs : Nat → Int32} (hs : om_Sc x L xs) (hd : decode cc pc = .ok (.arraylength, 1)) (K : om_J x (pc + 1) (lv) (vI (Int32.ofNat L) :: st) σ ρ n cells slots) : om_J x (pc) (lv) (vR (some 901) :: st) σ ρ n cells slots := by
  obtain ⟨G, p, l, e, R, s, m, args, below, meth, c, nL1, Z⟩ := x
  obtain ⟨hx, hb, hml, hnL, hr, hlk, hnm, hown, hts, hK, hfr, hlo, hmc, hms⟩ := O
  intro H locs ls hP hL hl
  exact va_slen hx hb hs.1 hs.2 (Nat.not_le.mpr hs.2) (om_S0 hP hL) hd (K H locs ls hP hL hl)
theorem om_sLd {x : om_X} {own nm : String} {cc : ByteArray} {nL k mc ms : Nat} {ret : Option FieldType} (O : om_Ok x own nm cc nL ret k mc ms) {pc : Nat} {lv : List (Nat × om_V)} {st : List om_V} {σ : om_S} {ρ : om_R} {n cells slots : Nat} {L : Nat} {xs : Nat → Int32} {i : Int32} (hs : om_Sc x L xs) (hin : om_in i L) (hd : decode cc pc = .ok (.iaload, 1)) (K : om_J x (pc + 1) (lv) (vI (xs i.toNatClampNeg) :: st) σ ρ n cells slots) : om_J x (pc) (lv) (vI i :: vR (some 901) :: st) σ ρ n cells slots := by
  obtain ⟨G, p, l, e, R, s, m, args, below, meth, c, nL1, Z⟩ := x
  obtain ⟨hx, hb, hml, hnL, hr, hlk, hnm, hown, hts, hK, hfr, hlo, hmc, hms⟩ := O
  intro H locs ls hP hL hl
  exact va_sld hx hb hs.1 hs.2 (Nat.not_le.mpr hs.2) (om_S0 hP hL) hin hd (K H locs ls hP hL hl)
theorem om_iret {x : om_X} {own nm : String} {cc : ByteArray} {nL k mc ms : Nat} {ret : Option FieldType} (O : om_Ok x own nm cc nL ret k mc ms) {pc : Nat} {lv : List (Nat × om_V)} {st : List om_V} {σ : om_S} {ρ : om_R} {n cells slots : Nat} {v : Int32} (hE : om_End x (some (vI v)) σ ρ n cells slots) (hret : ret = some .int) (hd : decode cc pc = .ok (.ireturn, 1)) : om_J x (pc) (lv) ([vI v]) σ ρ n cells slots := by
  obtain ⟨G, p, l, e, R, s, m, args, below, meth, c, nL1, Z⟩ := x
  obtain ⟨hx, hb, hml, hnL, hr, hlk, hnm, hown, hts, hK, hfr, hlo, hmc, hms⟩ := O
  intro H locs ls hP hL hl
  subst hret
  change Z = _ at hE
  subst hE
  exact W.iret hx hb hr (fun t ht hW => ⟨rfl, by rw [ht]; exact hP⟩) hL hd
theorem om_zret {x : om_X} {own nm : String} {cc : ByteArray} {nL k mc ms : Nat} {ret : Option FieldType} (O : om_Ok x own nm cc nL ret k mc ms) {pc : Nat} {lv : List (Nat × om_V)} {st : List om_V} {σ : om_S} {ρ : om_R} {n cells slots : Nat} {v : Int32} (hv : v = 0 ∨ v = 1) (hE : om_End x (some (vI v)) σ ρ n cells slots) (hret : ret = some .boolean) (hd : decode cc pc = .ok (.ireturn, 1)) : om_J x (pc) (lv) ([vI v]) σ ρ n cells slots := by
  obtain ⟨G, p, l, e, R, s, m, args, below, meth, c, nL1, Z⟩ := x
  obtain ⟨hx, hb, hml, hnL, hr, hlk, hnm, hown, hts, hK, hfr, hlo, hmc, hms⟩ := O
  intro H locs ls hP hL hl
  subst hret
  change Z = _ at hE
  subst hE
  exact W.zret (ty := .boolean) hx hb hr (om_nar (Or.inr ⟨rfl, hv⟩)).1 (fun t ht hW => ⟨rfl, by rw [ht]; exact hP⟩) hL hd
theorem om_vret {x : om_X} {own nm : String} {cc : ByteArray} {nL k mc ms : Nat} {ret : Option FieldType} (O : om_Ok x own nm cc nL ret k mc ms) {pc : Nat} {lv : List (Nat × om_V)} {st : List om_V} {σ : om_S} {ρ : om_R} {n cells slots : Nat}  (hE : om_End x none σ ρ n cells slots) (hret : ret = none) (hd : decode cc pc = .ok (.return_, 1)) : om_J x (pc) (lv) ([]) σ ρ n cells slots := by
  obtain ⟨G, p, l, e, R, s, m, args, below, meth, c, nL1, Z⟩ := x
  obtain ⟨hx, hb, hml, hnL, hr, hlk, hnm, hown, hts, hK, hfr, hlo, hmc, hms⟩ := O
  intro H locs ls hP hL hl
  subst hret
  change Z = _ at hE
  subst hE
  exact W.vret hx hb hr (fun t ht hW => ⟨rfl, by rw [ht]; exact hP⟩) hL hd
theorem om_aret {x : om_X} {own nm : String} {cc : ByteArray} {nL k mc ms : Nat} {ret : Option FieldType} (O : om_Ok x own nm cc nL ret k mc ms) {pc : Nat} {lv : List (Nat × om_V)} {st : List om_V} {σ : om_S} {ρ : om_R} {n cells slots : Nat} {v : Option Nat} {C : String} (hE : om_End x (some (vR v)) σ ρ n cells slots) (hret : ret = some (.object C)) (hd : decode cc pc = .ok (.areturn, 1)) : om_J x (pc) (lv) ([vR v]) σ ρ n cells slots := by
  obtain ⟨G, p, l, e, R, s, m, args, below, meth, c, nL1, Z⟩ := x
  obtain ⟨hx, hb, hml, hnL, hr, hlk, hnm, hown, hts, hK, hfr, hlo, hmc, hms⟩ := O
  intro H locs ls hP hL hl
  subst hret
  change Z = _ at hE
  subst hE
  refine W.aret hx hb hr (Or.inl ⟨_, rfl⟩) ?_ (fun t ht hW => ⟨rfl, by rw [ht]; exact hP⟩) hL hd
  cases v with
  | none => exact Or.inl rfl
  | some a => exact Or.inr ⟨_, rfl⟩
def om_D (l : Launch) (G : om_G) (k : Nat) (y : MethodName) (cc : ByteArray) (nL : Nat) (ret : Option FieldType) (mc ms : Nat) (as : List om_V) (σ : om_S) (ρ : om_R) (n : Nat) (v : Option om_V) (σ' : om_S) (ρ' : om_R) (n' : Nat) : Prop :=
  Met l y (Cond.code y cc nL ret :: om_tbl) ({ frames := k, cells := mc, slots := ms, locals := 40 * k }) (fun a U => a = (as.map (om_cv G)).toArray ∧ om_Rep G σ ρ n U.heap ∧ om_Kn G U) (om_Q G v σ' ρ' n') mc ms (om_A G)
def om_args : Nat → List om_V → List (Nat × om_V)
  | _, [] => []
  | i, v :: vs => (i, v) :: om_args (if om_c2 v = true then i + 2 else i + 1) vs
theorem om_args_eq (G : om_G) : ∀ (vs : List om_V) (i : Nat), lv_args i (vs.map (om_cv G)) = (om_args i vs).map fun q => (q.1, om_cv G q.2)
  | [], _ => rfl
  | v :: vs, i => by
    have h : ((om_cv G v).category = 2) ↔ (om_c2 v = true) := by
      have := om_cat2 G v
      constructor
      · intro q
        rw [← this, q]
        rfl
      · intro q
        rw [q] at this
        exact eq_of_beq this
    show (i, om_cv G v) :: lv_args (if (om_cv G v).category = 2 then i + 2 else i + 1) (vs.map (om_cv G)) = (i, om_cv G v) :: (om_args (if om_c2 v = true then i + 2 else i + 1) vs).map _
    rw [← om_args_eq G vs]
    by_cases hc : om_c2 v = true
    · rw [if_pos hc, if_pos (h.mpr hc)]
    · rw [if_neg hc, if_neg (fun q => hc (h.mp q))]
theorem om_size (G : om_G) : ∀ vs : List om_V, (lg_sl (vs.map (om_cv G))).length = (vs.map om_cat).sum
  | [] => rfl
  | v :: vs => by
    have ih := om_size G vs
    unfold lg_sl at ih ⊢
    rw [List.map_cons, List.flatMap_cons, List.length_append, ih, List.map_cons, List.sum_cons]
    congr 1
    rcases v with z | z | r
    · rfl
    · rfl
    · cases r <;> rfl
theorem om_Dof {l : Launch} {G : om_G} {k : Nat} {y : MethodName} {cc : ByteArray} {nL : Nat} {ret : Option FieldType} {mc ms : Nat} {as : List om_V} {σ : om_S} {ρ : om_R} {n : Nat} {v : Option om_V} {σ' : om_S} {ρ' : om_R} {n' : Nat} {lv : List (Nat × om_V)}
    (hy : plainName y.cls = true) (hsz : (as.map om_cat).sum ≤ nL) (hlv : om_args 0 as = lv) (body : ∀ x : om_X, om_Ok x y.cls y.name cc nL ret k mc ms → om_End x v σ' ρ' n' mc ms → om_J x 0 lv [] σ ρ n 0 0) : om_D l G k y cc nL ret mc ms as σ ρ n v σ' ρ' n' := by
  refine Met.ofW (cc := cc) (maxL := nL) (ret := ret) hy rfl ?_
  intro p e s m args below meth c s₁ B hml hv
  obtain ⟨rfl, hP, hK⟩ := hv
  have hts := atoms_spec (ws := Cond.code y cc nL ret :: om_tbl) B.pre
  have hnm := (name_of_methodNamed B.named B.method).1
  have h := body (G, p, l, e, { frames := k, cells := mc, slots := ms, locals := 40 * k }, s, m, (as.map (om_cv G)).toArray, below, meth, c, nL, MQ below (om_Q G v σ' ρ' n') (as.map (om_cv G)).toArray s mc ms (om_A G))
    ⟨B.exec, B.bytes, hml, rfl, B.returns, B.notSynchronized, hnm, findClass_of_methodNamed B.named, fun w hw => hts w (List.mem_cons_of_mem _ hw), hK, Nat.le_refl _, Nat.le_refl _, Nat.le_refl _, Nat.le_refl _⟩ rfl
  rw [lg_entry_eq]
  refine h s.heap [] _ hP (fun q hq => by cases hq) ?_
  have hl := lv_entry (as.map (om_cv G)) (n := nL) (by rw [om_size]; exact hsz)
  rw [om_args_eq, hlv] at hl
  exact hl
theorem om_D.up {l : Launch} {G : om_G} {k k2 : Nat} {y : MethodName} {cc : ByteArray} {nL : Nat} {ret : Option FieldType} {mc ms : Nat} {as : List om_V} {σ : om_S} {ρ : om_R} {n : Nat} {v : Option om_V} {σ' : om_S} {ρ' : om_R} {n' : Nat} (h : om_D l G k y cc nL ret mc ms as σ ρ n v σ' ρ' n') (h2 : k = k2) : om_D l G k2 y cc nL ret mc ms as σ ρ n v σ' ρ' n' := h2 ▸ h
theorem om_gi {ws : List Cond} (h : ∀ w ∈ ws, w ∈ om_tbl) : GoodIn om_tbl ws := fun w hw => om_good w (h w hw)
theorem om_gV {own C : String} {idx nLy : Nat} {y : MethodName} {ccy : ByteArray} {rety : Option FieldType} (hw1 : Cond.methodLink own idx y ∈ om_tbl) (hw2 : Cond.instanceMethod y ∈ om_tbl) (hw3 : Cond.selects C y y ∈ om_tbl) (hw4 : Cond.initialized C ∈ om_tbl) (hw5 : Cond.code y ccy nLy rety ∈ om_tbl) : GoodIn om_tbl (wsV own idx C y (Cond.code y ccy nLy rety :: om_tbl)) :=
  om_gi (List.forall_mem_cons.mpr ⟨hw1, List.forall_mem_cons.mpr ⟨hw2, List.forall_mem_cons.mpr ⟨hw3, List.forall_mem_cons.mpr ⟨hw4, List.forall_mem_cons.mpr ⟨hw5, fun _ h => h⟩⟩⟩⟩⟩)
theorem om_gS {own : String} {idx nLy : Nat} {y : MethodName} {ccy : ByteArray} {rety : Option FieldType} (hw1 : Cond.methodLink own idx y ∈ om_tbl) (hw2 : Cond.static y ∈ om_tbl) (hw4 : Cond.initialized y.cls ∈ om_tbl) (hw5 : Cond.code y ccy nLy rety ∈ om_tbl) : GoodIn om_tbl (va_wsS own idx y (Cond.code y ccy nLy rety :: om_tbl)) :=
  om_gi (List.forall_mem_cons.mpr ⟨hw1, List.forall_mem_cons.mpr ⟨hw2, List.forall_mem_cons.mpr ⟨hw4, List.forall_mem_cons.mpr ⟨hw5, fun _ h => h⟩⟩⟩⟩)
theorem om_gC {nLy : Nat} {y : MethodName} {ccy : ByteArray} {rety : Option FieldType} (hw5 : Cond.code y ccy nLy rety ∈ om_tbl) : GoodIn om_tbl (Cond.code y ccy nLy rety :: om_tbl) :=
  om_gi (List.forall_mem_cons.mpr ⟨hw5, fun _ h => h⟩)
theorem om_blind {G : om_G} {as : List om_V} {σ : om_S} {ρ : om_R} {n : Nat} : FrameBlind (fun (a : Array Value) (U : State) => a = (as.map (om_cv G)).toArray ∧ om_Rep G σ ρ n U.heap ∧ om_Kn G U) :=
  fun a U g mk h => ⟨h.1, h.2.1, h.2.2.calling g mk a⟩
theorem om_callV {x : om_X} {own nm : String} {cc : ByteArray} {nL k mc ms : Nat} {ret : Option FieldType} (O : om_Ok x own nm cc nL ret k mc ms) {pc : Nat} {lv : List (Nat × om_V)} {st : List om_V} {σ : om_S} {ρ : om_R} {n cells slots : Nat} {y : MethodName} {ccy : ByteArray} {nLy k2 mc2 ms2 idx np : Nat} {rety : Option FieldType} {v : Option om_V} {σ2 : om_S} {ρ2 : om_R} {n2 : Nat} {stk st2 : List om_V} {ci N q : Nat} {C : String} {T : u_T} (as : List om_V) (D : ∀ l G, om_D l G k2 y ccy nLy rety mc2 ms2 (vR (some q) :: as) σ ρ n v σ2 ρ2 n2) (hc : vwCl[ci]? = some (C, T, N)) (hci : ci < 20) (hq : om_kc q = ci) (hqn : q < n) (hw1 : Cond.methodLink own idx y ∈ om_tbl) (hw3 : Cond.selects C y y ∈ om_tbl) (hyC : y.cls = C) (hw2 : Cond.instanceMethod y ∈ om_tbl) (hw4 : Cond.initialized y.cls ∈ om_tbl) (hw5 : Cond.code y ccy nLy rety ∈ om_tbl) (hy : y.cls ≠ "java/lang/invoke/MethodHandle" ∧ y.cls ≠ "java/lang/invoke/VarHandle" ∧ (parseMethodDescriptor y.desc).map (fun d => d.parameters.length) = some np) (hnp : as.length = np) (hk : k2 + 1 ≤ k) (hn2 : nLy ≤ 21) (hst : stk = as.reverse ++ vR (some q) :: st) (hcat : (st.map om_cat).sum ≤ 8) (hst2 : v.toList ++ st = st2) (hmc2 : cells + mc2 ≤ mc) (hms2 : slots + ms2 ≤ ms) (hd : decode cc pc = .ok (.invokevirtual idx, 3)) (K : om_J x (pc + 3) (lv) (st2) σ2 ρ2 n2 (cells + mc2) (slots + ms2)) : om_J x (pc) (lv) (stk) σ ρ n cells slots := by
  obtain ⟨G, p, l, e, R, s, m, args, below, meth, c, nL1, Z⟩ := x
  obtain ⟨hx, hb, hml, hnL, hr, hlk, hnm, hown, hts, hK, hfr, hlo, hmc, hms⟩ := O
  intro H locs ls hP hL hl
  subst hnL
  intro T hT X
  subst hst
  obtain ⟨v0, st₀, t, T', L, h0, X', hL', e1, e2, ⟨hv, hR'⟩, stp⟩ := (va_runV (As := as.map (om_cv G)) (rest := st.map (om_cv G)) (b := om_ad G q) (C := C) (g := F0 m pc ls ((as.reverse ++ vR (some q) :: st).map (om_cv G))) ⟨hx, hb, hml, hown, hts⟩ (D l G) (cwV np hts (om_gV hw1 hw2 hw3 (hyC ▸ hw4) hw5) rfl rfl rfl ⟨hyC, hy⟩ ⟨by show k2 + 1 ≤ R.frames; omega, by show 8 + (nLy + 11) + 40 * k2 ≤ R.locals; omega⟩) ⟨om_blind, va_recv hK.1 hP.1 hc ((om_ws_at hqn).trans (by rw [om_ent_o hq hci])), fun U hU hW => ⟨rfl, by rw [hU]; exact hP, hK.warm hW⟩⟩ rfl (by simpa using hnp) hl.1 (by simp [List.map_reverse, om_cv, va_rf]) (lv_room (by rw [om_cats]; exact hcat)) hd ⟨Nat.le_trans hmc2 hmc, Nat.le_trans hms2 hms⟩) T hT X
  have hv0 : v0 = v.map (om_cv G) := by injection hv
  subst hv0
  subst hst2
  obtain ⟨t2, a1, b1⟩ := K T'.heap (locs ++ L) ls (by rw [e1]; exact hR') (fun q hq => by
    rcases List.mem_append.mp hq with h | h
    · exact hL q h
    · exact hL' q h) hl T' rfl X'
  refine ⟨t2, stp t2 ?_, b1⟩
  have e9 : (v.toList ++ st).map (om_cv G) = (v.map (om_cv G)).toList ++ st.map (om_cv G) := by
    rw [List.map_append]
    cases v <;> rfl
  rw [e9] at a1
  exact a1
theorem om_callS {x : om_X} {own nm : String} {cc : ByteArray} {nL k mc ms : Nat} {ret : Option FieldType} (O : om_Ok x own nm cc nL ret k mc ms) {pc : Nat} {lv : List (Nat × om_V)} {st : List om_V} {σ : om_S} {ρ : om_R} {n cells slots : Nat} {y : MethodName} {ccy : ByteArray} {nLy k2 mc2 ms2 idx np : Nat} {rety : Option FieldType} {v : Option om_V} {σ2 : om_S} {ρ2 : om_R} {n2 : Nat} {stk st2 : List om_V} (as : List om_V) (D : ∀ l G, om_D l G k2 y ccy nLy rety mc2 ms2 as σ ρ n v σ2 ρ2 n2) (hw1 : Cond.methodLink own idx y ∈ om_tbl) (hw2 : Cond.static y ∈ om_tbl) (hw4 : Cond.initialized y.cls ∈ om_tbl) (hw5 : Cond.code y ccy nLy rety ∈ om_tbl) (hy : y.cls ≠ "java/lang/invoke/MethodHandle" ∧ y.cls ≠ "java/lang/invoke/VarHandle" ∧ (parseMethodDescriptor y.desc).map (fun d => d.parameters.length) = some np) (hnp : as.length = np) (hk : k2 + 1 ≤ k) (hn2 : nLy ≤ 21) (hst : stk = as.reverse ++ st) (hcat : (st.map om_cat).sum ≤ 8) (hst2 : v.toList ++ st = st2) (hmc2 : cells + mc2 ≤ mc) (hms2 : slots + ms2 ≤ ms) (hd : decode cc pc = .ok (.invokestatic idx, 3)) (K : om_J x (pc + 3) (lv) (st2) σ2 ρ2 n2 (cells + mc2) (slots + ms2)) : om_J x (pc) (lv) (stk) σ ρ n cells slots := by
  obtain ⟨G, p, l, e, R, s, m, args, below, meth, c, nL1, Z⟩ := x
  obtain ⟨hx, hb, hml, hnL, hr, hlk, hnm, hown, hts, hK, hfr, hlo, hmc, hms⟩ := O
  intro H locs ls hP hL hl
  subst hnL
  intro T hT X
  subst hst
  obtain ⟨v0, st₀, t, T', L, h0, X', hL', e1, e2, ⟨hv, hR'⟩, stp⟩ := (va_runS (As := as.map (om_cv G)) (rest := st.map (om_cv G)) (g := F0 m pc ls ((as.reverse ++ st).map (om_cv G))) ⟨hx, hb, hml, hown, hts⟩ (D l G) (va_cwS np hts (om_gS hw1 hw2 hw4 hw5) rfl rfl rfl hy ⟨by show k2 + 1 ≤ R.frames; omega, by show 8 + (nLy + 11) + 40 * k2 ≤ R.locals; omega⟩) ⟨om_blind, fun U hU hW => ⟨rfl, by rw [hU]; exact hP, hK.warm hW⟩⟩ rfl (by simpa using hnp) hl.1 (by simp [List.map_reverse, om_cv, va_rf]) (lv_room (by rw [om_cats]; exact hcat)) hd ⟨Nat.le_trans hmc2 hmc, Nat.le_trans hms2 hms⟩) T hT X
  have hv0 : v0 = v.map (om_cv G) := by injection hv
  subst hv0
  subst hst2
  obtain ⟨t2, a1, b1⟩ := K T'.heap (locs ++ L) ls (by rw [e1]; exact hR') (fun q hq => by
    rcases List.mem_append.mp hq with h | h
    · exact hL q h
    · exact hL' q h) hl T' rfl X'
  refine ⟨t2, stp t2 ?_, b1⟩
  have e9 : (v.toList ++ st).map (om_cv G) = (v.map (om_cv G)).toList ++ st.map (om_cv G) := by
    rw [List.map_append]
    cases v <;> rfl
  rw [e9] at a1
  exact a1
end
section
theorem om_objInit {x : om_X} {own nm : String} {cc : ByteArray} {nL k mc ms : Nat} {ret : Option FieldType} (O : om_Ok x own nm cc nL ret k mc ms) {pc : Nat} {lv : List (Nat × om_V)} {st : List om_V} {σ : om_S} {ρ : om_R} {n cells slots : Nat} {idx q : Nat} (hw1 : Cond.methodLink own idx objectInit ∈ om_tbl) (hw2 : Cond.instanceMethod objectInit ∈ om_tbl) (hw3 : Cond.code objectInit ⟨#[0xb1]⟩ 1 none ∈ om_tbl) (hk : 1 ≤ k) (hcat : (st.map om_cat).sum ≤ 8) (hd : decode cc pc = .ok (.invokespecial idx, 3)) (K : om_J x (pc + 3) (lv) (st) σ ρ n cells slots) : om_J x (pc) (lv) (vR (some q) :: st) σ ρ n cells slots := by
  obtain ⟨G, p, l, e, R, s, m, args, below, meth, c, nL1, Z⟩ := x
  obtain ⟨hx, hb, hml, hnL, hr, hlk, hnm, hown, hts, hK, hfr, hlo, hmc, hms⟩ := O
  intro H locs ls hP hL hl
  subst hnL
  refine W.objInit hx hb hown (hts _ hw1) (hts _ hw2) (hts _ hw3) rfl (by rw [hml]; exact hl.1) rfl hd (by omega) ?_ (K H locs ls hP hL hl)
  have h9 := lv_room (m := m) (pc := pc) (ls := ls) (rest := []) (st := st.map (om_cv G)) (by rw [om_cats]; exact hcat)
  have h8 : 2 * (F0 m pc ls (List.map (om_cv G) (vR (some q) :: st))).monitorRoom + ((st.map (om_cv G)).map fun v => v.category).sum ≤ 8 := by
    show 2 * 0 + _ ≤ 8
    rw [om_cats]
    omega
  omega
theorem om_ws_push {G : om_G} {σ : om_S} {ρ : om_R} {n : Nat} : om_ws G (om_z σ n) (om_zr ρ n) (n + 1) = om_ws G σ ρ n ++ [(om_ad G n, om_ent G (om_z σ n) (om_zr ρ n) n)] := by
  unfold om_ws
  rw [List.range_succ, List.map_append]
  congr 1
  refine List.map_congr_left fun k hk => ?_
  have hk' : k ≠ n := Nat.ne_of_lt (List.mem_range.mp hk)
  rw [om_ent_off (σ := σ) (ρ := ρ)]
  · funext b
    unfold om_z
    rw [if_neg hk']
  · funext b
    unfold om_zr
    rw [if_neg hk']
theorem om_Rep.push {G : om_G} {σ : om_S} {ρ : om_R} {n : Nat} {H H1 : Heap} (h : om_Rep G σ ρ n H) (hn : n < om_N) (hz : H1.size = H.size + 1) (ho : ∀ q : Nat, q < H.size → H1[q]? = H[q]?) (he : va_at G.1 vwCl (om_ad G n, om_ent G (om_z σ n) (om_zr ρ n) n) H1) : om_Rep G (om_z σ n) (om_zr ρ n) (n + 1) H1 := by
  have hA : om_ad G n = H.size := by rw [om_adN hn, h.2.2.1]
  refine ⟨?_, ?_, by rw [hz, h.2.2.1, Nat.add_assoc], hn, fun q hq => ?_⟩
  · rw [om_ws_push]
    refine (h.1.kept (fun k x hx => ho x.1 ((h.1 k x hx).lt))).app (fun k x hx => ?_)
    have hz : k < 1 := (List.getElem?_eq_some_iff.mp hx).1
    rw [show k = 0 by omega] at hx
    cases hx
    exact he
  · rw [om_ws_push]
    exact h.2.1.push h.1 hA (by rw [om_adN hn]; exact Nat.le_add_right _ _)
  · rw [ho q (by rw [h.2.2.1]; omega)]
    exact h.2.2.2.2 q hq
theorem om_z_at {σ : om_S} {n j : Nat} : om_z σ n n j = 0 := if_pos rfl
theorem om_zr_at {ρ : om_R} {n j : Nat} : om_zr ρ n n j = none := if_pos rfl
theorem om_new {x : om_X} {own nm : String} {cc : ByteArray} {nL k mc ms : Nat} {ret : Option FieldType} (O : om_Ok x own nm cc nL ret k mc ms) {pc : Nat} {lv : List (Nat × om_V)} {st : List om_V} {σ : om_S} {ρ : om_R} {n cells slots : Nat} {σ1 : om_S} {ρ1 : om_R} {n1 : Nat} {C : String} {T : u_T} {N ci idx : Nat} (hc : vwCl[ci]? = some (C, T, N)) (hci : ci < 20) (hN : N = om_nf ci) (hin : ∀ w ∈ u_ws C T N, w ∈ om_tbl) (ty : Nat → FieldType) (hty : ∀ k, k < N → parseFieldDescriptor (T k).2.2.1 = some (ty k)) (hdv : ∀ j, j < N → defaultValue (ty j) = (if om_isr ci j = true then .null else .int 0)) (hw1 : Cond.classLink own idx C ∈ om_tbl) (hw2 : Cond.instantiable C N ∈ om_tbl) (hw3 : Cond.initialized C ∈ om_tbl) (hq : om_kc n = ci) (hcells : cells + 1 ≤ mc) (hslots : slots + N ≤ ms) (hd : decode cc pc = .ok (.new idx, 3)) (hs : om_z σ n = σ1) (hr1 : om_zr ρ n = ρ1) (hn1 : n + 1 = n1) (K : om_J x (pc + 3) (lv) (vR (some n) :: st) σ1 ρ1 n1 (cells + 1) (slots + N)) : om_J x (pc) (lv) (st) σ ρ n cells slots := by
  obtain ⟨G, p, l, e, R, s, m, args, below, meth, c, nL1, Z⟩ := x
  obtain ⟨hx, hb, hml, hnL, hr, hlk, hnm, hown, hts, hK, hfr, hlo, hmc, hms⟩ := O
  intro H locs ls hP hL hl
  subst hN
  subst hs; subst hr1; subst hn1
  have hn : n < om_N := om_lt hq (by omega)
  have hKn := hK.1.1 ci _ hc
  refine W.newcK hx hb hown (hts _ hw1) (hts _ hw2) (hts _ hw3) rfl hd (Nat.le_trans hcells hmc) (Nat.le_trans hslots hms) hKn.2.1 (h := om_ad G n) (by rw [om_adN hn, hP.2.2.1]) fun H1 kC hkC e1 z1 o1 => ?_
  rw [om_adN hn, ← hP.2.2.1] at z1 o1
  refine K H1 locs ls (hP.push hn z1 o1 ?_) hL hl
  rw [om_ent_o hq hci]
  refine ⟨_, hc, (u_born ty hts hin hKn hkC e1 hty).to (fun j hj => ?_)⟩
  rw [hdv j hj]
  unfold vp_V om_fs
  rw [List.getD_eq_getElem?_getD, List.getElem?_map, List.getElem?_range hj]
  by_cases h : om_isr ci j = true
  · simp [h, om_zr_at, va_rf]
  · simp [h, om_z_at]
theorem om_newa {x : om_X} {own nm : String} {cc : ByteArray} {nL k mc ms : Nat} {ret : Option FieldType} (O : om_Ok x own nm cc nL ret k mc ms) {pc : Nat} {lv : List (Nat × om_V)} {st : List om_V} {σ : om_S} {ρ : om_R} {n cells slots : Nat} {σ1 : om_S} {ρ1 : om_R} {n1 : Nat} {len : Int32} (B : Nat) (hw : Cond.arrayClass .int ∈ om_tbl) (hq : om_kc n = 20) (hlen : Int32.ofNat (om_al n) = len) (hB : om_al n ≤ B) (hB2 : B ≤ 100000) (hcells : cells + 1 ≤ mc) (hslots : slots + B ≤ ms) (hd : decode cc pc = .ok (.newarray .int, 2)) (hs : om_z σ n = σ1) (hr1 : om_zr ρ n = ρ1) (hn1 : n + 1 = n1) (K : om_J x (pc + 2) (lv) (vR (some n) :: st) σ1 ρ1 n1 (cells + 1) (slots + B)) : om_J x (pc) (lv) (vI len :: st) σ ρ n cells slots := by
  obtain ⟨G, p, l, e, R, s, m, args, below, meth, c, nL1, Z⟩ := x
  obtain ⟨hx, hb, hml, hnL, hr, hlk, hnm, hown, hts, hK, hfr, hlo, hmc, hms⟩ := O
  intro H locs ls hP hL hl
  subst hs; subst hr1; subst hn1
  have hn : n < om_N := om_lt hq (by omega)
  subst hlen
  have hsm : om_al n < 2 ^ 31 := by omega
  refine va_newaK (atype := .int) (N := om_al n) hx hb (hts _ hw) rfl hd rfl (nI_pos hsm) (nI_clamp hsm) (by show om_al n * 4 ≤ _; omega) (Nat.le_trans hcells hmc) (by omega) (h := om_ad G n) (by rw [om_adN hn, hP.2.2.1]) fun H1 cA e1 z1 o1 hAr hNm => ?_
  rw [om_adN hn, ← hP.2.2.1] at z1 o1
  have hcA : G.2.2.1.1 = cA := Option.some.inj (((hK.1.2 0 _ rfl).2).symm.trans hNm)
  refine W.widen (k := cells + 1) (n := slots + B) (by omega) (by omega) (K H1 locs ls (hP.push hn z1 o1 ?_) hL hl)
  rw [om_ent_i hq]
  show H1[om_ad G n]? = some (vp_cell _ _)
  rw [vp_cell_i, hcA, e1]
  congr 2
  funext j
  rw [om_z_at]
  rfl
theorem om_anewM {x : om_X} {own nm : String} {cc : ByteArray} {nL k mc ms : Nat} {ret : Option FieldType} (O : om_Ok x own nm cc nL ret k mc ms) {pc : Nat} {lv : List (Nat × om_V)} {st : List om_V} {σ : om_S} {ρ : om_R} {n cells slots : Nat} {σ1 : om_S} {ρ1 : om_R} {n1 : Nat} {len : Int32} {idx : Nat} (hw : Cond.classLink own idx "OilMemories$Memory" ∈ om_tbl) (hq : om_kc n = 21) (hlen : Int32.ofNat (om_al n) = len) (hB : om_al n ≤ 100) (hcells : cells + 1 ≤ mc) (hslots : slots + 100 ≤ ms) (hd : decode cc pc = .ok (.anewarray idx, 3)) (hs : om_z σ n = σ1) (hr1 : om_zr ρ n = ρ1) (hn1 : n + 1 = n1) (K : om_J x (pc + 3) (lv) (vR (some n) :: st) σ1 ρ1 n1 (cells + 1) (slots + 100)) : om_J x (pc) (lv) (vI len :: st) σ ρ n cells slots := by
  obtain ⟨G, p, l, e, R, s, m, args, below, meth, c, nL1, Z⟩ := x
  obtain ⟨hx, hb, hml, hnL, hr, hlk, hnm, hown, hts, hK, hfr, hlo, hmc, hms⟩ := O
  intro H locs ls hP hL hl
  subst hs; subst hr1; subst hn1
  have hn : n < om_N := om_lt hq (by omega)
  subst hlen
  have hsm : om_al n < 2 ^ 31 := by omega
  have hcl : (Int32.ofNat (om_al n)).toNatClampNeg = om_al n := nI_clamp hsm
  refine W.anew hx hb hown (hts _ hw) (va_AO.use hK.2.2.2.1) rfl hd rfl (nI_pos hsm) (by rw [hcl]; omega) (Nat.le_trans hcells hmc) (by rw [hcl]; omega) fun cA kA comp f1 f2 f3 f4 => ?_
  rw [hcl]
  have hsz : om_ad G n = H.size := by rw [om_adN hn, hP.2.2.1]
  generalize hH1 : H.push ({ cls := cA, slots := Array.replicate (om_al n) .null, vm := .none } : Cell) = H1
  have z1 : H1.size = H.size + 1 := by rw [← hH1, Array.size_push]
  have e1 : H1[om_ad G n]? = some (arrV cA (om_al n) (fun _ => .null)) := by rw [hsz, ← hH1, Array.getElem?_push_size, ← arrV_new]
  have o1 : ∀ q : Nat, q < H.size → H1[q]? = H[q]? := fun q hq => by rw [← hH1, Array.getElem?_push, if_neg (Nat.ne_of_lt hq)]
  have hcA : G.2.2.1.2.1 = cA := by
    obtain ⟨kA', comp', -, -, -, h4⟩ := (hK.1.2 1 _ rfl).2
    exact Option.some.inj (h4.symm.trans f1)
  have hg : (F0 m pc ls (List.map (om_cv G) (vI (Int32.ofNat (om_al n)) :: st))) = F0 m pc ls (.int (Int32.ofNat (om_al n)) :: st.map (om_cv G)) := rfl
  rw [← hsz]
  refine W.widen (k := cells + 1) (n := slots + 100) (by omega) (by omega) (K H1 locs ls (hP.push hn z1 o1 ?_) hL hl)
  rw [om_ent_m hq]
  show H1[om_ad G n]? = some (vp_cell _ _)
  rw [vp_cell_q, hcA, e1]
  congr 2
  funext j
  unfold om_rs
  by_cases hj : j < om_al n
  · rw [if_pos hj, om_zr_at]
    rfl
  · rw [if_neg hj]
    rfl
theorem om_anewS {x : om_X} {own nm : String} {cc : ByteArray} {nL k mc ms : Nat} {ret : Option FieldType} (O : om_Ok x own nm cc nL ret k mc ms) {pc : Nat} {lv : List (Nat × om_V)} {st : List om_V} {σ : om_S} {ρ : om_R} {n cells slots : Nat} {σ1 : om_S} {ρ1 : om_R} {n1 : Nat} {len : Int32} {idx : Nat} (hw : Cond.classLink own idx "OilMemories$Sheet" ∈ om_tbl) (hq : om_kc n = 22) (hlen : Int32.ofNat (om_al n) = len) (hB : om_al n ≤ 100) (hcells : cells + 1 ≤ mc) (hslots : slots + 100 ≤ ms) (hd : decode cc pc = .ok (.anewarray idx, 3)) (hs : om_z σ n = σ1) (hr1 : om_zr ρ n = ρ1) (hn1 : n + 1 = n1) (K : om_J x (pc + 3) (lv) (vR (some n) :: st) σ1 ρ1 n1 (cells + 1) (slots + 100)) : om_J x (pc) (lv) (vI len :: st) σ ρ n cells slots := by
  obtain ⟨G, p, l, e, R, s, m, args, below, meth, c, nL1, Z⟩ := x
  obtain ⟨hx, hb, hml, hnL, hr, hlk, hnm, hown, hts, hK, hfr, hlo, hmc, hms⟩ := O
  intro H locs ls hP hL hl
  subst hs; subst hr1; subst hn1
  have hn : n < om_N := om_lt hq (by omega)
  subst hlen
  have hsm : om_al n < 2 ^ 31 := by omega
  have hcl : (Int32.ofNat (om_al n)).toNatClampNeg = om_al n := nI_clamp hsm
  refine W.anew hx hb hown (hts _ hw) (va_AO.use hK.2.2.2.2.1) rfl hd rfl (nI_pos hsm) (by rw [hcl]; omega) (Nat.le_trans hcells hmc) (by rw [hcl]; omega) fun cA kA comp f1 f2 f3 f4 => ?_
  rw [hcl]
  have hsz : om_ad G n = H.size := by rw [om_adN hn, hP.2.2.1]
  generalize hH1 : H.push ({ cls := cA, slots := Array.replicate (om_al n) .null, vm := .none } : Cell) = H1
  have z1 : H1.size = H.size + 1 := by rw [← hH1, Array.size_push]
  have e1 : H1[om_ad G n]? = some (arrV cA (om_al n) (fun _ => .null)) := by rw [hsz, ← hH1, Array.getElem?_push_size, ← arrV_new]
  have o1 : ∀ q : Nat, q < H.size → H1[q]? = H[q]? := fun q hq => by rw [← hH1, Array.getElem?_push, if_neg (Nat.ne_of_lt hq)]
  have hcA : G.2.2.1.2.2 = cA := by
    obtain ⟨kA', comp', -, -, -, h4⟩ := (hK.1.2 2 _ rfl).2
    exact Option.some.inj (h4.symm.trans f1)
  have hg : (F0 m pc ls (List.map (om_cv G) (vI (Int32.ofNat (om_al n)) :: st))) = F0 m pc ls (.int (Int32.ofNat (om_al n)) :: st.map (om_cv G)) := rfl
  rw [← hsz]
  refine W.widen (k := cells + 1) (n := slots + 100) (by omega) (by omega) (K H1 locs ls (hP.push hn z1 o1 ?_) hL hl)
  rw [om_ent_s hq]
  show H1[om_ad G n]? = some (vp_cell _ _)
  rw [vp_cell_q, hcA, e1]
  congr 2
  funext j
  unfold om_rs
  by_cases hj : j < om_al n
  · rw [if_pos hj, om_zr_at]
    rfl
  · rw [if_neg hj]
    rfl
theorem om_putFR {x : om_X} {own nm : String} {cc : ByteArray} {nL k mc ms : Nat} {ret : Option FieldType} (O : om_Ok x own nm cc nL ret k mc ms) {pc : Nat} {lv : List (Nat × om_V)} {st : List om_V} {σ : om_S} {ρ : om_R} {n cells slots : Nat} {C : String} {T : u_T} {N ci j idx q : Nat} {r : Nat} {ty : FieldType} {ρ1 : om_R} (hc : vwCl[ci]? = some (C, T, N)) (hci : ci < 20) (hN : N = om_nf ci) (hin : ∀ w ∈ u_ws C T N, w ∈ om_tbl) (hj : j < N) (hT : (T j).1 = C) (hlink : Cond.fieldLink own idx C (T j).2.1 (T j).2.2.1 ∈ om_tbl) (ty0 : Nat → FieldType) (hty : ∀ k, k < N → parseFieldDescriptor (T k).2.2.1 = some (ty0 k)) (hnm2 : ∀ a, a < N → ∀ b, b < N → a ≠ b → (T a).2.1 ≠ (T b).2.1) (hfin : (T j).2.2.2 = true) (hini : nm = "<init>") (hdecl : C = own) (hv : (∃ C2, ty = .object C2) ∨ ∃ t, ty = .array t) (hdsc : parseFieldDescriptor (T j).2.2.1 = some ty) (hi : om_isr ci j = true) (hq : om_kc q = ci) (hqn : q < n) (hd : decode cc pc = .ok (.putfield idx, 3)) (hs : om_wr ρ q j (some r) = ρ1) (K : om_J x (pc + 3) (lv) (st) σ ρ1 n cells slots) : om_J x (pc) (lv) (vR (some r) :: vR (some q) :: st) σ ρ n cells slots := by
  obtain ⟨G, p, l, e, R, s, m, args, below, meth, c, nL1, Z⟩ := x
  obtain ⟨hx, hb, hml, hnL, hr, hlk, hnm, hown, hts, hK, hfr, hlo, hmc, hms⟩ := O
  intro H locs ls hP hL hl
  subst hN
  subst hs
  have g1 : narrow ty (.ref (om_ad G r)) = .ref (om_ad G r) := by rcases hv with ⟨C2, rfl⟩ | ⟨t, rfl⟩ <;> rfl
  have g2 : fits ty (.ref (om_ad G r)) = true := by rcases hv with ⟨C2, rfl⟩ | ⟨t, rfl⟩ <;> rfl
  obtain ⟨rr, h1r, cell, q1, q2, q3, q4⟩ := hP.1 q _ ((om_ws_at hqn).trans (by rw [om_ent_o hq hci]))
  have hr' : rr = (C, T, om_nf ci) := Option.some.inj (h1r.symm.trans hc)
  subst hr'
  have hap := va_apart (own := own) hts hin ty0 hty hnm2 hK.1 hc
  obtain ⟨hSl, hfc, kC, hkC, hkind⟩ := hK.1.1 ci _ hc
  obtain ⟨cf, kf, fi, f, hfi, hsl⟩ := hSl j hj
  have he : (om_ws G σ ρ n)[q]? = some (om_ad G q, .inr (ci, om_fs G σ ρ ci q)) := (om_ws_at hqn).trans (by rw [om_ent_o hq hci])
  have hlay := hts _ (hin _ (u_in_lay hj))
  unfold u_lay at hlay
  have hst := (u_facts hfc hkC (u_lays hts hin hj) hfi).1
  have hpost : ∀ H' : Heap, H'[om_ad G q]? = some (cell.setSlot f.slot (.ref (om_ad G r))) → H'.size = H.size → (∀ a : Nat, a ≠ om_ad G q → H'[a]? = H[a]?) → om_Rep G σ (om_wr ρ q j (some r)) n H' := by
    intro H' e1 e2 e3
    rw [hsl] at e1
    have hA : om_A G (om_ad G q) := by
      rw [om_adN (Nat.lt_of_lt_of_le hqn hP.2.2.2.1)]
      exact Nat.le_add_right _ _
    refine hP.put (k := q) (e := .inr (ci, (om_fs G σ ρ ci q).set j (.ref (om_ad G r)))) e2 hqn (fun _ _ => rfl) (fun a ha => om_wr_off ha) ((om_ent_o hq hci).trans (by rw [om_fs_putR hi]; rfl)) ?_ (hP.2.1.set he) ((om_S0 hP hL).put e2 e3 hA (k := 0))
    exact hP.1.set hP.2.1 he ⟨_, hc, t_OB.to (V := updV (vp_V (om_fs G σ ρ ci q)) j (.ref (om_ad G r))) ⟨_, e1, q2, q3, t_set q4 hap hj (.ref (om_ad G r))⟩ (fun i _ => vp_updV_set (by rw [om_fs_len]; exact hj) (.ref (om_ad G r)) i)⟩ e3
  have hA : om_A G (om_ad G q) := by
    rw [om_adN (Nat.lt_of_lt_of_le hqn hP.2.2.2.1)]
    exact Nat.le_add_right _ _
  rw [if_pos hfin] at hlay
  have hcf : m.cls = cf := by
    obtain ⟨_, _, c', _, _, _, -, -, hf', -, -, -, hown2, -⟩ := Cond.laysFinal_spec hlay
    have e1 : c' = cf := by have := hfi.symm.trans hf'; simp at this; exact this.1.symm
    rw [hT, hdecl] at hown2
    rw [← e1]; exact Option.some.inj (hown.symm.trans hown2)
  have h6 := u_fits hfc hkC hkind (Or.inr hlay) hfi hdsc g1 g2
  refine W.putFinK hx hb hown (hts _ hlink) (by rw [hT] at hfi; exact hfi) hst hcf (hnm.trans hini) (by rw [q2]; exact h6) q1 q3 (by rw [hsl]; exact k2_hasslot (q4 j hj)) rfl rfl hd fun H' e1 e2 e3 => ?_
  exact K H' _ ls (hpost H' e1 e2 e3) (fun q' hq' => by
    rcases List.mem_append.mp hq' with h | h
    · exact hL q' h
    · rw [List.mem_singleton.mp h]; exact hA) hl
theorem om_aastM {x : om_X} {own nm : String} {cc : ByteArray} {nL k mc ms : Nat} {ret : Option FieldType} (O : om_Ok x own nm cc nL ret k mc ms) {pc : Nat} {lv : List (Nat × om_V)} {st : List om_V} {σ : om_S} {ρ : om_R} {n cells slots : Nat} {i : Int32} {a r ci : Nat} {T : u_T} {N : Nat} {ρ1 : om_R} (hc : vwCl[ci]? = some ("OilMemories$Memory", T, N)) (hci : ci < 20) (hq : om_kc a = 21) (hqn : a < n) (hr2 : om_kc r = ci) (hrn : r < n) (hin : om_in i (om_al a)) (hd : decode cc pc = .ok (.aastore, 1)) (hs : om_wr ρ a i.toNatClampNeg (some r) = ρ1) (K : om_J x (pc + 1) (lv) (st) σ ρ1 n cells slots) : om_J x (pc) (lv) (vR (some r) :: vI i :: vR (some a) :: st) σ ρ n cells slots := by
  obtain ⟨G, p, l, e, R, s, m, args, below, meth, c, nL1, Z⟩ := x
  obtain ⟨hx, hb, hml, hnL, hr, hlk, hnm, hown, hts, hK, hfr, hlo, hmc, hms⟩ := O
  intro H locs ls hP hL hl
  subst hs
  have he : (om_ws G σ ρ n)[a]? = some (om_ad G a, .inl (G.2.2.1.2.1, om_al a, .inr (.inr (.inr (.inr (om_rs G ρ a)))))) := (om_ws_at hqn).trans (by rw [om_ent_m hq])
  have hlt : i.toNatClampNeg < om_al a := Nat.not_le.mp fun q => hin (Or.inr q)
  have hsz : ∀ {H1 : Heap}, va_P G.1 vwCl ((om_ws G σ ρ n).set a (om_ad G a, .inl (G.2.2.1.2.1, om_al a, .inr (.inr (.inr (.inr (va_up (om_rs G ρ a) i.toNatClampNeg (some (om_ad G r))))))))) H1 → True := fun _ => trivial
  have h9 : om_rs G (om_wr ρ a i.toNatClampNeg (some r)) a = va_up (om_rs G ρ a) i.toNatClampNeg (some (om_ad G r)) := by
    funext q
    unfold om_rs va_up om_wr
    by_cases hj : q = i.toNatClampNeg
    · subst hj
      simp [hlt]
    · simp [hj]
  have hA : om_A G (om_ad G a) := by
    rw [om_adN (Nat.lt_of_lt_of_le hqn hP.2.2.2.1)]
    exact Nat.le_add_right _ _
  obtain ⟨r', hr', cellV, g1, g2, g3, -⟩ := hP.1 r _ ((om_ws_at hrn).trans (by rw [om_ent_o hr2 hci]))
  have hcls := (hK.1.1 ci _ hc).2
  obtain ⟨kA, comp, k1, k2', k3, -⟩ := (hK.1.2 1 _ rfl).2
  have hcomp : comp = G.1.1 ci := Option.some.inj (k3.symm.trans hcls.1)
  subst hcomp
  obtain ⟨kC, hkC, -⟩ := hcls.2
  have h0 : ¬ i < 0 := fun q => hin (Or.inl q)
  refine W.aast hx hb (hP.1 a _ he) (fun q h => by cases h) (fun h => by cases h) k1 k2' rfl hkC ⟨h0, by show _ < (arrV _ _ _).slots.size; rw [arrV_size]; exact hlt⟩ g1 (fun q h => by rw [g3] at h; cases h) (by rw [g2]; exact hkC) (by rw [g2]; exact va_assign hcls) rfl rfl hd fun H1 e1 e2 e3 => ?_
  have hR : om_Rep G σ (om_wr ρ a i.toNatClampNeg (some r)) n H1 := by
    refine hP.put (k := a) (e := .inl (G.2.2.1.2.1, om_al a, .inr (.inr (.inr (.inr (va_up (om_rs G ρ a) i.toNatClampNeg (some (om_ad G r)))))))) e2 hqn (fun _ _ => rfl) (fun a ha => om_wr_off ha) ((om_ent_m hq).trans (by rw [h9])) ?_ (hP.2.1.set he) ((om_S0 hP hL).put e2 e3 hA (k := 0))
    refine hP.1.set hP.2.1 he ?_ e3
    show H1[om_ad G a]? = some (vp_cell _ _)
    rw [e1]
    rw [vp_cell_q, vp_cell_q, arrV_store]
    congr 2
    funext q
    by_cases hj : q = i.toNatClampNeg
    · subst hj
      simp [updV, va_up, va_rf]
    · simp [updV, va_up, hj]
  exact K H1 _ ls hR (fun q' hq' => by
    rcases List.mem_append.mp hq' with h | h
    · exact hL q' h
    · rw [List.mem_singleton.mp h]; exact hA) hl
theorem om_aastS {x : om_X} {own nm : String} {cc : ByteArray} {nL k mc ms : Nat} {ret : Option FieldType} (O : om_Ok x own nm cc nL ret k mc ms) {pc : Nat} {lv : List (Nat × om_V)} {st : List om_V} {σ : om_S} {ρ : om_R} {n cells slots : Nat} {i : Int32} {a r ci : Nat} {T : u_T} {N : Nat} {ρ1 : om_R} (hc : vwCl[ci]? = some ("OilMemories$Sheet", T, N)) (hci : ci < 20) (hq : om_kc a = 22) (hqn : a < n) (hr2 : om_kc r = ci) (hrn : r < n) (hin : om_in i (om_al a)) (hd : decode cc pc = .ok (.aastore, 1)) (hs : om_wr ρ a i.toNatClampNeg (some r) = ρ1) (K : om_J x (pc + 1) (lv) (st) σ ρ1 n cells slots) : om_J x (pc) (lv) (vR (some r) :: vI i :: vR (some a) :: st) σ ρ n cells slots := by
  obtain ⟨G, p, l, e, R, s, m, args, below, meth, c, nL1, Z⟩ := x
  obtain ⟨hx, hb, hml, hnL, hr, hlk, hnm, hown, hts, hK, hfr, hlo, hmc, hms⟩ := O
  intro H locs ls hP hL hl
  subst hs
  have he : (om_ws G σ ρ n)[a]? = some (om_ad G a, .inl (G.2.2.1.2.2, om_al a, .inr (.inr (.inr (.inr (om_rs G ρ a)))))) := (om_ws_at hqn).trans (by rw [om_ent_s hq])
  have hlt : i.toNatClampNeg < om_al a := Nat.not_le.mp fun q => hin (Or.inr q)
  have hsz : ∀ {H1 : Heap}, va_P G.1 vwCl ((om_ws G σ ρ n).set a (om_ad G a, .inl (G.2.2.1.2.2, om_al a, .inr (.inr (.inr (.inr (va_up (om_rs G ρ a) i.toNatClampNeg (some (om_ad G r))))))))) H1 → True := fun _ => trivial
  have h9 : om_rs G (om_wr ρ a i.toNatClampNeg (some r)) a = va_up (om_rs G ρ a) i.toNatClampNeg (some (om_ad G r)) := by
    funext q
    unfold om_rs va_up om_wr
    by_cases hj : q = i.toNatClampNeg
    · subst hj
      simp [hlt]
    · simp [hj]
  have hA : om_A G (om_ad G a) := by
    rw [om_adN (Nat.lt_of_lt_of_le hqn hP.2.2.2.1)]
    exact Nat.le_add_right _ _
  obtain ⟨r', hr', cellV, g1, g2, g3, -⟩ := hP.1 r _ ((om_ws_at hrn).trans (by rw [om_ent_o hr2 hci]))
  have hcls := (hK.1.1 ci _ hc).2
  obtain ⟨kA, comp, k1, k2', k3, -⟩ := (hK.1.2 2 _ rfl).2
  have hcomp : comp = G.1.1 ci := Option.some.inj (k3.symm.trans hcls.1)
  subst hcomp
  obtain ⟨kC, hkC, -⟩ := hcls.2
  have h0 : ¬ i < 0 := fun q => hin (Or.inl q)
  refine W.aast hx hb (hP.1 a _ he) (fun q h => by cases h) (fun h => by cases h) k1 k2' rfl hkC ⟨h0, by show _ < (arrV _ _ _).slots.size; rw [arrV_size]; exact hlt⟩ g1 (fun q h => by rw [g3] at h; cases h) (by rw [g2]; exact hkC) (by rw [g2]; exact va_assign hcls) rfl rfl hd fun H1 e1 e2 e3 => ?_
  have hR : om_Rep G σ (om_wr ρ a i.toNatClampNeg (some r)) n H1 := by
    refine hP.put (k := a) (e := .inl (G.2.2.1.2.2, om_al a, .inr (.inr (.inr (.inr (va_up (om_rs G ρ a) i.toNatClampNeg (some (om_ad G r)))))))) e2 hqn (fun _ _ => rfl) (fun a ha => om_wr_off ha) ((om_ent_s hq).trans (by rw [h9])) ?_ (hP.2.1.set he) ((om_S0 hP hL).put e2 e3 hA (k := 0))
    refine hP.1.set hP.2.1 he ?_ e3
    show H1[om_ad G a]? = some (vp_cell _ _)
    rw [e1]
    rw [vp_cell_q, vp_cell_q, arrV_store]
    congr 2
    funext q
    by_cases hj : q = i.toNatClampNeg
    · subst hj
      simp [updV, va_up, va_rf]
    · simp [updV, va_up, hj]
  exact K H1 _ ls hR (fun q' hq' => by
    rcases List.mem_append.mp hq' with h | h
    · exact hL q' h
    · rw [List.mem_singleton.mp h]; exact hA) hl
theorem om_callI {x : om_X} {own nm : String} {cc : ByteArray} {nL k mc ms : Nat} {ret : Option FieldType} (O : om_Ok x own nm cc nL ret k mc ms) {pc : Nat} {lv : List (Nat × om_V)} {st : List om_V} {σ : om_S} {ρ : om_R} {n cells slots : Nat} {y : MethodName} {ccy : ByteArray} {nLy k2 mc2 ms2 idx np : Nat} {v : Option om_V} {σ2 : om_S} {ρ2 : om_R} {n2 : Nat} {stk st2 : List om_V} {q : Nat} (as : List om_V) (D : ∀ l G, om_D l G k2 y ccy nLy none mc2 ms2 (vR (some q) :: as) σ ρ n v σ2 ρ2 n2) (hini : y.name = "<init>") (hw1 : Cond.methodLink own idx y ∈ om_tbl) (hw2 : Cond.instanceMethod y ∈ om_tbl) (hw4 : Cond.initialized y.cls ∈ om_tbl) (hw5 : Cond.code y ccy nLy none ∈ om_tbl) (hy : y.cls ≠ "java/lang/invoke/MethodHandle" ∧ y.cls ≠ "java/lang/invoke/VarHandle" ∧ (parseMethodDescriptor y.desc).map (fun d => d.parameters.length) = some np) (hnp : as.length = np) (hk : k2 + 1 ≤ k) (hn2 : nLy ≤ 21) (hst : stk = as.reverse ++ vR (some q) :: st) (hcat : (st.map om_cat).sum ≤ 8) (hst2 : v.toList ++ st = st2) (hmc2 : cells + mc2 ≤ mc) (hms2 : slots + ms2 ≤ ms) (hd : decode cc pc = .ok (.invokespecial idx, 3)) (K : om_J x (pc + 3) (lv) (st2) σ2 ρ2 n2 (cells + mc2) (slots + ms2)) : om_J x (pc) (lv) (stk) σ ρ n cells slots := by
  obtain ⟨G, p, l, e, R, s, m, args, below, meth, c, nL1, Z⟩ := x
  obtain ⟨hx, hb, hml, hnL, hr, hlk, hnm, hown, hts, hK, hfr, hlo, hmc, hms⟩ := O
  intro H locs ls hP hL hl
  subst hnL
  intro T hT X
  subst hst
  obtain ⟨v0, st₀, t, T', L, h0, X', hL', e1, e2, ⟨hv, hR'⟩, stp⟩ := (va_runI (As := as.map (om_cv G)) (rest := st.map (om_cv G)) (b := om_ad G q) (g := F0 m pc ls ((as.reverse ++ vR (some q) :: st).map (om_cv G))) ⟨hx, hb, hml, hown, hts⟩ (D l G) (cwI np hts (om_gC hw5) rfl rfl rfl (hts _ hw4) (hts _ hw1) (hts _ hw2) hini hy ⟨by show k2 + 1 ≤ R.frames; omega, by show 8 + (nLy + 11) + 40 * k2 ≤ R.locals; omega⟩) ⟨om_blind, fun U hU hW => ⟨rfl, by rw [hU]; exact hP, hK.warm hW⟩⟩ rfl (by simpa using hnp) hl.1 (by simp [List.map_reverse, om_cv, va_rf]) (lv_room (by rw [om_cats]; exact hcat)) hd ⟨Nat.le_trans hmc2 hmc, Nat.le_trans hms2 hms⟩) T hT X
  have hv0 : v0 = v.map (om_cv G) := by injection hv
  subst hv0
  subst hst2
  obtain ⟨t2, a1, b1⟩ := K T'.heap (locs ++ L) ls (by rw [e1]; exact hR') (fun q hq => by
    rcases List.mem_append.mp hq with h | h
    · exact hL q h
    · exact hL' q h) hl T' rfl X'
  refine ⟨t2, stp t2 ?_, b1⟩
  have e9 : (v.toList ++ st).map (om_cv G) = (v.map (om_cv G)).toList ++ st.map (om_cv G) := by
    rw [List.map_append]
    cases v <;> rfl
  rw [e9] at a1
  exact a1
theorem om_callIN {x : om_X} {own nm : String} {cc : ByteArray} {nL k mc ms : Nat} {ret : Option FieldType} (O : om_Ok x own nm cc nL ret k mc ms) {pc : Nat} {lv : List (Nat × om_V)} {st : List om_V} {σ : om_S} {ρ : om_R} {n cells slots : Nat} {y : MethodName} {ccy : ByteArray} {nLy k2 mc2 ms2 idx np : Nat} {v : Option om_V} {σ2 : om_S} {ρ2 : om_R} {n2 : Nat} {stk st2 : List om_V} {q : Nat} {host : String} (as : List om_V) (D : ∀ l G, om_D l G k2 y ccy nLy none mc2 ms2 (vR (some q) :: as) σ ρ n v σ2 ρ2 n2) (hini : y.name = "<init>") (hw1 : ∀ U : State, om_Nw U → va_Nw (.methodLinkNest own idx y host) U) (hw2 : Cond.instanceMethod y ∈ om_tbl) (hw4 : Cond.initialized y.cls ∈ om_tbl) (hw5 : Cond.code y ccy nLy none ∈ om_tbl) (hy : y.cls ≠ "java/lang/invoke/MethodHandle" ∧ y.cls ≠ "java/lang/invoke/VarHandle" ∧ (parseMethodDescriptor y.desc).map (fun d => d.parameters.length) = some np) (hnp : as.length = np) (hk : k2 + 1 ≤ k) (hn2 : nLy ≤ 21) (hst : stk = as.reverse ++ vR (some q) :: st) (hcat : (st.map om_cat).sum ≤ 8) (hst2 : v.toList ++ st = st2) (hmc2 : cells + mc2 ≤ mc) (hms2 : slots + ms2 ≤ ms) (hd : decode cc pc = .ok (.invokespecial idx, 3)) (K : om_J x (pc + 3) (lv) (st2) σ2 ρ2 n2 (cells + mc2) (slots + ms2)) : om_J x (pc) (lv) (stk) σ ρ n cells slots := by
  obtain ⟨G, p, l, e, R, s, m, args, below, meth, c, nL1, Z⟩ := x
  obtain ⟨hx, hb, hml, hnL, hr, hlk, hnm, hown, hts, hK, hfr, hlo, hmc, hms⟩ := O
  intro H locs ls hP hL hl
  subst hnL
  intro T hT X
  subst hst
  obtain ⟨v0, st₀, t, T', L, h0, X', hL', e1, e2, ⟨hv, hR'⟩, stp⟩ := (va_runIN (As := as.map (om_cv G)) (rest := st.map (om_cv G)) (b := om_ad G q) (g := F0 m pc ls ((as.reverse ++ vR (some q) :: st).map (om_cv G))) ⟨hx, hb, hml, hown, hts⟩ (D l G) ⟨va_cnB np hts (om_gC hw5) rfl rfl rfl (hw1 s hK.2.2.2.2.2) (hts _ hw4) hy ⟨by show k2 + 1 ≤ R.frames; omega, by show 8 + (nLy + 11) + 40 * k2 ≤ R.locals; omega⟩, hini, hts _ hw2⟩ ⟨om_blind, fun U hU hW => ⟨rfl, by rw [hU]; exact hP, hK.warm hW⟩⟩ rfl (by simpa using hnp) hl.1 (by simp [List.map_reverse, om_cv, va_rf]) (lv_room (by rw [om_cats]; exact hcat)) hd ⟨Nat.le_trans hmc2 hmc, Nat.le_trans hms2 hms⟩) T hT X
  have hv0 : v0 = v.map (om_cv G) := by injection hv
  subst hv0
  subst hst2
  obtain ⟨t2, a1, b1⟩ := K T'.heap (locs ++ L) ls (by rw [e1]; exact hR') (fun q hq => by
    rcases List.mem_append.mp hq with h | h
    · exact hL q h
    · exact hL' q h) hl T' rfl X'
  refine ⟨t2, stp t2 ?_, b1⟩
  have e9 : (v.toList ++ st).map (om_cv G) = (v.map (om_cv G)).toList ++ st.map (om_cv G) := by
    rw [List.map_append]
    cases v <;> rfl
  rw [e9] at a1
  exact a1
end
