section
-- ===== PART A: goes FIRST, ahead of the names: the tables' words, and 'selects' of the private methods out of them =====
/-- a private method of a class that the tables say can be made, by its rows of tables_1 -/
def lw_okq (q : MethodName × Nat) : Prop := (q.1.cls ≠ "java/lang/invoke/MethodHandle" ∧ q.1.cls ≠ "java/lang/invoke/VarHandle") ∧ Cond.instantiable q.1.cls q.2 ∈ tables_1 ∧ Cond.privateMethod q.1 ∈ tables_1 ∧ Cond.instanceMethod q.1 ∈ tables_1
theorem lw_p0 : lw_okq (⟨"NameScopes$Layers", "passOn", "(LNameScopes$Facts;I)Z"⟩, 6) := ⟨⟨by decide +kernel, by decide +kernel⟩, List.mem_of_getElem? (i := 46) (by decide +kernel), List.mem_of_getElem? (i := 200) (by decide +kernel), List.mem_of_getElem? (i := 201) (by decide +kernel)⟩
theorem lw_p1 : lw_okq (⟨"java/lang/Throwable", "fillInStackTrace", "(I)Ljava/lang/Throwable;"⟩, 6) := ⟨⟨by decide +kernel, by decide +kernel⟩, List.mem_of_getElem? (i := 311) (by decide +kernel), List.mem_of_getElem? (i := 309) (by decide +kernel), List.mem_of_getElem? (i := 310) (by decide +kernel)⟩
theorem lw_p2 : lw_okq (⟨"NameScopes", "importsWithoutLoss", "()I"⟩, 3) := ⟨⟨by decide +kernel, by decide +kernel⟩, List.mem_of_getElem? (i := 17) (by decide +kernel), List.mem_of_getElem? (i := 345) (by decide +kernel), List.mem_of_getElem? (i := 346) (by decide +kernel)⟩
theorem lw_p3 : lw_okq (⟨"NameScopes", "lossWithout", "(I)I"⟩, 3) := ⟨⟨by decide +kernel, by decide +kernel⟩, List.mem_of_getElem? (i := 17) (by decide +kernel), List.mem_of_getElem? (i := 349) (by decide +kernel), List.mem_of_getElem? (i := 350) (by decide +kernel)⟩
theorem lw_p4 : lw_okq (⟨"NameScopes$Facts", "declares", "(II)Z"⟩, 18) := ⟨⟨by decide +kernel, by decide +kernel⟩, List.mem_of_getElem? (i := 40) (by decide +kernel), List.mem_of_getElem? (i := 506) (by decide +kernel), List.mem_of_getElem? (i := 507) (by decide +kernel)⟩
theorem lw_p5 : lw_okq (⟨"NameScopes", "removeDeclaration", "(I)I"⟩, 3) := ⟨⟨by decide +kernel, by decide +kernel⟩, List.mem_of_getElem? (i := 17) (by decide +kernel), List.mem_of_getElem? (i := 560) (by decide +kernel), List.mem_of_getElem? (i := 561) (by decide +kernel)⟩
theorem lw_p6 : lw_okq (⟨"NameScopes", "exchange", "()V"⟩, 3) := ⟨⟨by decide +kernel, by decide +kernel⟩, List.mem_of_getElem? (i := 17) (by decide +kernel), List.mem_of_getElem? (i := 568) (by decide +kernel), List.mem_of_getElem? (i := 569) (by decide +kernel)⟩
theorem lw_p7 : lw_okq (⟨"NameScopes", "removeImport", "(I)I"⟩, 3) := ⟨⟨by decide +kernel, by decide +kernel⟩, List.mem_of_getElem? (i := 17) (by decide +kernel), List.mem_of_getElem? (i := 572) (by decide +kernel), List.mem_of_getElem? (i := 573) (by decide +kernel)⟩
theorem lw_p8 : lw_okq (⟨"NameScopes$Text", "putItem", "(LNameScopes$Facts;I)I"⟩, 2) := ⟨⟨by decide +kernel, by decide +kernel⟩, List.mem_of_getElem? (i := 25) (by decide +kernel), List.mem_of_getElem? (i := 609) (by decide +kernel), List.mem_of_getElem? (i := 610) (by decide +kernel)⟩
theorem lw_p9 : lw_okq (⟨"NameScopes$Text", "putImportItem", "(LNameScopes$Facts;II)I"⟩, 2) := ⟨⟨by decide +kernel, by decide +kernel⟩, List.mem_of_getElem? (i := 25) (by decide +kernel), List.mem_of_getElem? (i := 614) (by decide +kernel), List.mem_of_getElem? (i := 615) (by decide +kernel)⟩
theorem lw_p10 : lw_okq (⟨"NameScopes$Text", "exceptedFrom", "(I)I"⟩, 2) := ⟨⟨by decide +kernel, by decide +kernel⟩, List.mem_of_getElem? (i := 25) (by decide +kernel), List.mem_of_getElem? (i := 620) (by decide +kernel), List.mem_of_getElem? (i := 621) (by decide +kernel)⟩
theorem lw_p11 : lw_okq (⟨"NameScopes", "reasonAgainst", "(II)I"⟩, 3) := ⟨⟨by decide +kernel, by decide +kernel⟩, List.mem_of_getElem? (i := 17) (by decide +kernel), List.mem_of_getElem? (i := 676) (by decide +kernel), List.mem_of_getElem? (i := 677) (by decide +kernel)⟩
theorem lw_p12 : lw_okq (⟨"NameScopes", "firstChanged", "(IZ)I"⟩, 3) := ⟨⟨by decide +kernel, by decide +kernel⟩, List.mem_of_getElem? (i := 17) (by decide +kernel), List.mem_of_getElem? (i := 688) (by decide +kernel), List.mem_of_getElem? (i := 689) (by decide +kernel)⟩
theorem lw_p13 : lw_okq (⟨"NameScopes", "usesToRename", "(I)I"⟩, 3) := ⟨⟨by decide +kernel, by decide +kernel⟩, List.mem_of_getElem? (i := 17) (by decide +kernel), List.mem_of_getElem? (i := 699) (by decide +kernel), List.mem_of_getElem? (i := 700) (by decide +kernel)⟩
theorem lw_p14 : lw_okq (⟨"NameScopesModel", "fresh", "()V"⟩, 26) := ⟨⟨by decide +kernel, by decide +kernel⟩, List.mem_of_getElem? (i := 731) (by decide +kernel), List.mem_of_getElem? (i := 737) (by decide +kernel), List.mem_of_getElem? (i := 738) (by decide +kernel)⟩
theorem lw_p15 : lw_okq (⟨"NameScopesModel", "isScope", "(I)Z"⟩, 26) := ⟨⟨by decide +kernel, by decide +kernel⟩, List.mem_of_getElem? (i := 731) (by decide +kernel), List.mem_of_getElem? (i := 832) (by decide +kernel), List.mem_of_getElem? (i := 833) (by decide +kernel)⟩
def lw_privs_1 : List (MethodName × Nat) := [(⟨"NameScopes$Layers", "passOn", "(LNameScopes$Facts;I)Z"⟩, 6), (⟨"java/lang/Throwable", "fillInStackTrace", "(I)Ljava/lang/Throwable;"⟩, 6), (⟨"NameScopes", "importsWithoutLoss", "()I"⟩, 3), (⟨"NameScopes", "lossWithout", "(I)I"⟩, 3), (⟨"NameScopes$Facts", "declares", "(II)Z"⟩, 18), (⟨"NameScopes", "removeDeclaration", "(I)I"⟩, 3), (⟨"NameScopes", "exchange", "()V"⟩, 3), (⟨"NameScopes", "removeImport", "(I)I"⟩, 3), (⟨"NameScopes$Text", "putItem", "(LNameScopes$Facts;I)I"⟩, 2), (⟨"NameScopes$Text", "putImportItem", "(LNameScopes$Facts;II)I"⟩, 2), (⟨"NameScopes$Text", "exceptedFrom", "(I)I"⟩, 2), (⟨"NameScopes", "reasonAgainst", "(II)I"⟩, 3), (⟨"NameScopes", "firstChanged", "(IZ)I"⟩, 3), (⟨"NameScopes", "usesToRename", "(I)I"⟩, 3), (⟨"NameScopesModel", "fresh", "()V"⟩, 26), (⟨"NameScopesModel", "isScope", "(I)Z"⟩, 26)]
theorem lw_r1 : ∀ q ∈ lw_privs_1, lw_okq q := List.forall_mem_cons.mpr ⟨lw_p0, List.forall_mem_cons.mpr ⟨lw_p1, List.forall_mem_cons.mpr ⟨lw_p2, List.forall_mem_cons.mpr ⟨lw_p3, List.forall_mem_cons.mpr ⟨lw_p4, List.forall_mem_cons.mpr ⟨lw_p5, List.forall_mem_cons.mpr ⟨lw_p6, List.forall_mem_cons.mpr ⟨lw_p7, List.forall_mem_cons.mpr ⟨lw_p8, List.forall_mem_cons.mpr ⟨lw_p9, List.forall_mem_cons.mpr ⟨lw_p10, List.forall_mem_cons.mpr ⟨lw_p11, List.forall_mem_cons.mpr ⟨lw_p12, List.forall_mem_cons.mpr ⟨lw_p13, List.forall_mem_cons.mpr ⟨lw_p14, List.forall_mem_cons.mpr ⟨lw_p15, fun _ h => absurd h List.not_mem_nil⟩⟩⟩⟩⟩⟩⟩⟩⟩⟩⟩⟩⟩⟩⟩⟩
theorem lw_p16 : lw_okq (⟨"NameScopesModel", "declaredIn", "(II)I"⟩, 26) := ⟨⟨by decide +kernel, by decide +kernel⟩, List.mem_of_getElem? (i := 731) (by decide +kernel), List.mem_of_getElem? (i := 846) (by decide +kernel), List.mem_of_getElem? (i := 847) (by decide +kernel)⟩
theorem lw_p17 : lw_okq (⟨"NameScopesModel", "of", "(II)I"⟩, 26) := ⟨⟨by decide +kernel, by decide +kernel⟩, List.mem_of_getElem? (i := 731) (by decide +kernel), List.mem_of_getElem? (i := 850) (by decide +kernel), List.mem_of_getElem? (i := 851) (by decide +kernel)⟩
theorem lw_p18 : lw_okq (⟨"NameScopesModel", "wrongImport", "(IIZ)I"⟩, 26) := ⟨⟨by decide +kernel, by decide +kernel⟩, List.mem_of_getElem? (i := 731) (by decide +kernel), List.mem_of_getElem? (i := 858) (by decide +kernel), List.mem_of_getElem? (i := 859) (by decide +kernel)⟩
theorem lw_p19 : lw_okq (⟨"NameScopesModel", "addImport", "(IIIIIZ)I"⟩, 26) := ⟨⟨by decide +kernel, by decide +kernel⟩, List.mem_of_getElem? (i := 731) (by decide +kernel), List.mem_of_getElem? (i := 862) (by decide +kernel), List.mem_of_getElem? (i := 863) (by decide +kernel)⟩
theorem lw_p20 : lw_okq (⟨"NameScopesModel", "removes", "(II)I"⟩, 26) := ⟨⟨by decide +kernel, by decide +kernel⟩, List.mem_of_getElem? (i := 731) (by decide +kernel), List.mem_of_getElem? (i := 879) (by decide +kernel), List.mem_of_getElem? (i := 880) (by decide +kernel)⟩
theorem lw_p21 : lw_okq (⟨"NameScopesModel", "layOutcomes", "()V"⟩, 26) := ⟨⟨by decide +kernel, by decide +kernel⟩, List.mem_of_getElem? (i := 731) (by decide +kernel), List.mem_of_getElem? (i := 883) (by decide +kernel), List.mem_of_getElem? (i := 884) (by decide +kernel)⟩
theorem lw_p22 : lw_okq (⟨"NameScopesModel", "outcomeOf", "(I)I"⟩, 26) := ⟨⟨by decide +kernel, by decide +kernel⟩, List.mem_of_getElem? (i := 731) (by decide +kernel), List.mem_of_getElem? (i := 887) (by decide +kernel), List.mem_of_getElem? (i := 888) (by decide +kernel)⟩
theorem lw_p23 : lw_okq (⟨"NameScopesModel", "useScope", "(I)I"⟩, 26) := ⟨⟨by decide +kernel, by decide +kernel⟩, List.mem_of_getElem? (i := 731) (by decide +kernel), List.mem_of_getElem? (i := 891) (by decide +kernel), List.mem_of_getElem? (i := 892) (by decide +kernel)⟩
theorem lw_p24 : lw_okq (⟨"NameScopesModel", "useName", "(I)I"⟩, 26) := ⟨⟨by decide +kernel, by decide +kernel⟩, List.mem_of_getElem? (i := 731) (by decide +kernel), List.mem_of_getElem? (i := 895) (by decide +kernel), List.mem_of_getElem? (i := 896) (by decide +kernel)⟩
theorem lw_p25 : lw_okq (⟨"NameScopesModel", "outcome", "(II)I"⟩, 26) := ⟨⟨by decide +kernel, by decide +kernel⟩, List.mem_of_getElem? (i := 731) (by decide +kernel), List.mem_of_getElem? (i := 899) (by decide +kernel), List.mem_of_getElem? (i := 900) (by decide +kernel)⟩
theorem lw_p26 : lw_okq (⟨"NameScopesModel", "layLayers", "(II)V"⟩, 26) := ⟨⟨by decide +kernel, by decide +kernel⟩, List.mem_of_getElem? (i := 731) (by decide +kernel), List.mem_of_getElem? (i := 903) (by decide +kernel), List.mem_of_getElem? (i := 904) (by decide +kernel)⟩
theorem lw_p27 : lw_okq (⟨"NameScopesModel", "lay", "()V"⟩, 26) := ⟨⟨by decide +kernel, by decide +kernel⟩, List.mem_of_getElem? (i := 731) (by decide +kernel), List.mem_of_getElem? (i := 907) (by decide +kernel), List.mem_of_getElem? (i := 908) (by decide +kernel)⟩
theorem lw_p28 : lw_okq (⟨"NameScopesModel", "passOn", "()Z"⟩, 26) := ⟨⟨by decide +kernel, by decide +kernel⟩, List.mem_of_getElem? (i := 731) (by decide +kernel), List.mem_of_getElem? (i := 911) (by decide +kernel), List.mem_of_getElem? (i := 912) (by decide +kernel)⟩
theorem lw_p29 : lw_okq (⟨"NameScopesModel", "at", "(II)I"⟩, 26) := ⟨⟨by decide +kernel, by decide +kernel⟩, List.mem_of_getElem? (i := 731) (by decide +kernel), List.mem_of_getElem? (i := 915) (by decide +kernel), List.mem_of_getElem? (i := 916) (by decide +kernel)⟩
theorem lw_p30 : lw_okq (⟨"NameScopesModel", "brought", "(II)I"⟩, 26) := ⟨⟨by decide +kernel, by decide +kernel⟩, List.mem_of_getElem? (i := 731) (by decide +kernel), List.mem_of_getElem? (i := 919) (by decide +kernel), List.mem_of_getElem? (i := 920) (by decide +kernel)⟩
theorem lw_p31 : lw_okq (⟨"NameScopesModel", "isSingle", "(I)Z"⟩, 26) := ⟨⟨by decide +kernel, by decide +kernel⟩, List.mem_of_getElem? (i := 731) (by decide +kernel), List.mem_of_getElem? (i := 923) (by decide +kernel), List.mem_of_getElem? (i := 924) (by decide +kernel)⟩
def lw_privs_2 : List (MethodName × Nat) := [(⟨"NameScopesModel", "declaredIn", "(II)I"⟩, 26), (⟨"NameScopesModel", "of", "(II)I"⟩, 26), (⟨"NameScopesModel", "wrongImport", "(IIZ)I"⟩, 26), (⟨"NameScopesModel", "addImport", "(IIIIIZ)I"⟩, 26), (⟨"NameScopesModel", "removes", "(II)I"⟩, 26), (⟨"NameScopesModel", "layOutcomes", "()V"⟩, 26), (⟨"NameScopesModel", "outcomeOf", "(I)I"⟩, 26), (⟨"NameScopesModel", "useScope", "(I)I"⟩, 26), (⟨"NameScopesModel", "useName", "(I)I"⟩, 26), (⟨"NameScopesModel", "outcome", "(II)I"⟩, 26), (⟨"NameScopesModel", "layLayers", "(II)V"⟩, 26), (⟨"NameScopesModel", "lay", "()V"⟩, 26), (⟨"NameScopesModel", "passOn", "()Z"⟩, 26), (⟨"NameScopesModel", "at", "(II)I"⟩, 26), (⟨"NameScopesModel", "brought", "(II)I"⟩, 26), (⟨"NameScopesModel", "isSingle", "(I)Z"⟩, 26)]
theorem lw_r2 : ∀ q ∈ lw_privs_2, lw_okq q := List.forall_mem_cons.mpr ⟨lw_p16, List.forall_mem_cons.mpr ⟨lw_p17, List.forall_mem_cons.mpr ⟨lw_p18, List.forall_mem_cons.mpr ⟨lw_p19, List.forall_mem_cons.mpr ⟨lw_p20, List.forall_mem_cons.mpr ⟨lw_p21, List.forall_mem_cons.mpr ⟨lw_p22, List.forall_mem_cons.mpr ⟨lw_p23, List.forall_mem_cons.mpr ⟨lw_p24, List.forall_mem_cons.mpr ⟨lw_p25, List.forall_mem_cons.mpr ⟨lw_p26, List.forall_mem_cons.mpr ⟨lw_p27, List.forall_mem_cons.mpr ⟨lw_p28, List.forall_mem_cons.mpr ⟨lw_p29, List.forall_mem_cons.mpr ⟨lw_p30, List.forall_mem_cons.mpr ⟨lw_p31, fun _ h => absurd h List.not_mem_nil⟩⟩⟩⟩⟩⟩⟩⟩⟩⟩⟩⟩⟩⟩⟩⟩
theorem lw_p32 : lw_okq (⟨"NameScopesModel", "offer", "(II)I"⟩, 26) := ⟨⟨by decide +kernel, by decide +kernel⟩, List.mem_of_getElem? (i := 731) (by decide +kernel), List.mem_of_getElem? (i := 927) (by decide +kernel), List.mem_of_getElem? (i := 928) (by decide +kernel)⟩
theorem lw_p33 : lw_okq (⟨"NameScopesModel", "layer", "(III)I"⟩, 26) := ⟨⟨by decide +kernel, by decide +kernel⟩, List.mem_of_getElem? (i := 731) (by decide +kernel), List.mem_of_getElem? (i := 931) (by decide +kernel), List.mem_of_getElem? (i := 932) (by decide +kernel)⟩
theorem lw_p34 : lw_okq (⟨"NameScopesModel", "cut", "(IIII)V"⟩, 26) := ⟨⟨by decide +kernel, by decide +kernel⟩, List.mem_of_getElem? (i := 731) (by decide +kernel), List.mem_of_getElem? (i := 938) (by decide +kernel), List.mem_of_getElem? (i := 939) (by decide +kernel)⟩
theorem lw_p35 : lw_okq (⟨"NameScopesModel", "otherOutcomes", "()I"⟩, 26) := ⟨⟨by decide +kernel, by decide +kernel⟩, List.mem_of_getElem? (i := 731) (by decide +kernel), List.mem_of_getElem? (i := 942) (by decide +kernel), List.mem_of_getElem? (i := 943) (by decide +kernel)⟩
theorem lw_p36 : lw_okq (⟨"NameScopesModel", "read", "(Z)I"⟩, 26) := ⟨⟨by decide +kernel, by decide +kernel⟩, List.mem_of_getElem? (i := 731) (by decide +kernel), List.mem_of_getElem? (i := 958) (by decide +kernel), List.mem_of_getElem? (i := 959) (by decide +kernel)⟩
theorem lw_p37 : lw_okq (⟨"NameScopesModel", "takes", "(I)Z"⟩, 26) := ⟨⟨by decide +kernel, by decide +kernel⟩, List.mem_of_getElem? (i := 731) (by decide +kernel), List.mem_of_getElem? (i := 962) (by decide +kernel), List.mem_of_getElem? (i := 963) (by decide +kernel)⟩
theorem lw_p38 : lw_okq (⟨"NameScopesModel", "canEnd", "()Z"⟩, 26) := ⟨⟨by decide +kernel, by decide +kernel⟩, List.mem_of_getElem? (i := 731) (by decide +kernel), List.mem_of_getElem? (i := 966) (by decide +kernel), List.mem_of_getElem? (i := 967) (by decide +kernel)⟩
theorem lw_p39 : lw_okq (⟨"NameScopesModel", "endItem", "()V"⟩, 26) := ⟨⟨by decide +kernel, by decide +kernel⟩, List.mem_of_getElem? (i := 731) (by decide +kernel), List.mem_of_getElem? (i := 970) (by decide +kernel), List.mem_of_getElem? (i := 971) (by decide +kernel)⟩
theorem lw_p40 : lw_okq (⟨"NameScopesModel", "goes", "(ZI)Z"⟩, 26) := ⟨⟨by decide +kernel, by decide +kernel⟩, List.mem_of_getElem? (i := 731) (by decide +kernel), List.mem_of_getElem? (i := 982) (by decide +kernel), List.mem_of_getElem? (i := 983) (by decide +kernel)⟩
theorem lw_p41 : lw_okq (⟨"NameScopesModel", "takesSign", "(I)Z"⟩, 26) := ⟨⟨by decide +kernel, by decide +kernel⟩, List.mem_of_getElem? (i := 731) (by decide +kernel), List.mem_of_getElem? (i := 986) (by decide +kernel), List.mem_of_getElem? (i := 987) (by decide +kernel)⟩
theorem lw_p42 : lw_okq (⟨"NameScopesModel", "takesFrom", "(I)Z"⟩, 26) := ⟨⟨by decide +kernel, by decide +kernel⟩, List.mem_of_getElem? (i := 731) (by decide +kernel), List.mem_of_getElem? (i := 990) (by decide +kernel), List.mem_of_getElem? (i := 991) (by decide +kernel)⟩
theorem lw_p43 : lw_okq (⟨"NameScopesModel", "takesName", "(I)Z"⟩, 26) := ⟨⟨by decide +kernel, by decide +kernel⟩, List.mem_of_getElem? (i := 731) (by decide +kernel), List.mem_of_getElem? (i := 994) (by decide +kernel), List.mem_of_getElem? (i := 995) (by decide +kernel)⟩
theorem lw_p44 : lw_okq (⟨"NameScopesModel", "copy", "([I[I)V"⟩, 26) := ⟨⟨by decide +kernel, by decide +kernel⟩, List.mem_of_getElem? (i := 731) (by decide +kernel), List.mem_of_getElem? (i := 1005) (by decide +kernel), List.mem_of_getElem? (i := 1006) (by decide +kernel)⟩
theorem lw_p45 : lw_okq (⟨"NameScopesModel", "resolved", "(III)I"⟩, 26) := ⟨⟨by decide +kernel, by decide +kernel⟩, List.mem_of_getElem? (i := 731) (by decide +kernel), List.mem_of_getElem? (i := 1013) (by decide +kernel), List.mem_of_getElem? (i := 1014) (by decide +kernel)⟩
theorem lw_p46 : lw_okq (⟨"NameScopesModel", "candidateOf", "(IIII)I"⟩, 26) := ⟨⟨by decide +kernel, by decide +kernel⟩, List.mem_of_getElem? (i := 731) (by decide +kernel), List.mem_of_getElem? (i := 1030) (by decide +kernel), List.mem_of_getElem? (i := 1031) (by decide +kernel)⟩
theorem lw_p47 : lw_okq (⟨"NameScopesModel", "seen", "(IZ)I"⟩, 26) := ⟨⟨by decide +kernel, by decide +kernel⟩, List.mem_of_getElem? (i := 731) (by decide +kernel), List.mem_of_getElem? (i := 1042) (by decide +kernel), List.mem_of_getElem? (i := 1043) (by decide +kernel)⟩
def lw_privs_3 : List (MethodName × Nat) := [(⟨"NameScopesModel", "offer", "(II)I"⟩, 26), (⟨"NameScopesModel", "layer", "(III)I"⟩, 26), (⟨"NameScopesModel", "cut", "(IIII)V"⟩, 26), (⟨"NameScopesModel", "otherOutcomes", "()I"⟩, 26), (⟨"NameScopesModel", "read", "(Z)I"⟩, 26), (⟨"NameScopesModel", "takes", "(I)Z"⟩, 26), (⟨"NameScopesModel", "canEnd", "()Z"⟩, 26), (⟨"NameScopesModel", "endItem", "()V"⟩, 26), (⟨"NameScopesModel", "goes", "(ZI)Z"⟩, 26), (⟨"NameScopesModel", "takesSign", "(I)Z"⟩, 26), (⟨"NameScopesModel", "takesFrom", "(I)Z"⟩, 26), (⟨"NameScopesModel", "takesName", "(I)Z"⟩, 26), (⟨"NameScopesModel", "copy", "([I[I)V"⟩, 26), (⟨"NameScopesModel", "resolved", "(III)I"⟩, 26), (⟨"NameScopesModel", "candidateOf", "(IIII)I"⟩, 26), (⟨"NameScopesModel", "seen", "(IZ)I"⟩, 26)]
theorem lw_r3 : ∀ q ∈ lw_privs_3, lw_okq q := List.forall_mem_cons.mpr ⟨lw_p32, List.forall_mem_cons.mpr ⟨lw_p33, List.forall_mem_cons.mpr ⟨lw_p34, List.forall_mem_cons.mpr ⟨lw_p35, List.forall_mem_cons.mpr ⟨lw_p36, List.forall_mem_cons.mpr ⟨lw_p37, List.forall_mem_cons.mpr ⟨lw_p38, List.forall_mem_cons.mpr ⟨lw_p39, List.forall_mem_cons.mpr ⟨lw_p40, List.forall_mem_cons.mpr ⟨lw_p41, List.forall_mem_cons.mpr ⟨lw_p42, List.forall_mem_cons.mpr ⟨lw_p43, List.forall_mem_cons.mpr ⟨lw_p44, List.forall_mem_cons.mpr ⟨lw_p45, List.forall_mem_cons.mpr ⟨lw_p46, List.forall_mem_cons.mpr ⟨lw_p47, fun _ h => absurd h List.not_mem_nil⟩⟩⟩⟩⟩⟩⟩⟩⟩⟩⟩⟩⟩⟩⟩⟩
theorem lw_p48 : lw_okq (⟨"NameScopesModel", "isDeclaration", "(I)Z"⟩, 26) := ⟨⟨by decide +kernel, by decide +kernel⟩, List.mem_of_getElem? (i := 731) (by decide +kernel), List.mem_of_getElem? (i := 1050) (by decide +kernel), List.mem_of_getElem? (i := 1051) (by decide +kernel)⟩
theorem lw_p49 : lw_okq (⟨"NameScopesModel", "renames", "(IIZ)I"⟩, 26) := ⟨⟨by decide +kernel, by decide +kernel⟩, List.mem_of_getElem? (i := 731) (by decide +kernel), List.mem_of_getElem? (i := 1054) (by decide +kernel), List.mem_of_getElem? (i := 1055) (by decide +kernel)⟩
theorem lw_p50 : lw_okq (⟨"NameScopesModel", "changeNames", "(II)V"⟩, 26) := ⟨⟨by decide +kernel, by decide +kernel⟩, List.mem_of_getElem? (i := 731) (by decide +kernel), List.mem_of_getElem? (i := 1058) (by decide +kernel), List.mem_of_getElem? (i := 1059) (by decide +kernel)⟩
theorem lw_p51 : lw_okq (⟨"NameScopesModel", "counted", "(I)I"⟩, 26) := ⟨⟨by decide +kernel, by decide +kernel⟩, List.mem_of_getElem? (i := 731) (by decide +kernel), List.mem_of_getElem? (i := 1074) (by decide +kernel), List.mem_of_getElem? (i := 1075) (by decide +kernel)⟩
theorem lw_p52 : lw_okq (⟨"NameScopesModel", "usesWith", "(II)I"⟩, 26) := ⟨⟨by decide +kernel, by decide +kernel⟩, List.mem_of_getElem? (i := 731) (by decide +kernel), List.mem_of_getElem? (i := 1078) (by decide +kernel), List.mem_of_getElem? (i := 1079) (by decide +kernel)⟩
theorem lw_p53 : lw_okq (⟨"NameScopesModel", "unused", "()I"⟩, 26) := ⟨⟨by decide +kernel, by decide +kernel⟩, List.mem_of_getElem? (i := 731) (by decide +kernel), List.mem_of_getElem? (i := 1082) (by decide +kernel), List.mem_of_getElem? (i := 1083) (by decide +kernel)⟩
theorem lw_p54 : lw_okq (⟨"NameScopesModel", "usesOf", "(I)I"⟩, 26) := ⟨⟨by decide +kernel, by decide +kernel⟩, List.mem_of_getElem? (i := 731) (by decide +kernel), List.mem_of_getElem? (i := 1086) (by decide +kernel), List.mem_of_getElem? (i := 1087) (by decide +kernel)⟩
theorem lw_p55 : lw_okq (⟨"NameScopesModel", "needless", "(Z)I"⟩, 26) := ⟨⟨by decide +kernel, by decide +kernel⟩, List.mem_of_getElem? (i := 731) (by decide +kernel), List.mem_of_getElem? (i := 1090) (by decide +kernel), List.mem_of_getElem? (i := 1091) (by decide +kernel)⟩
theorem lw_p56 : lw_okq (⟨"NameScopesModel", "pairsOf", "(I)I"⟩, 26) := ⟨⟨by decide +kernel, by decide +kernel⟩, List.mem_of_getElem? (i := 731) (by decide +kernel), List.mem_of_getElem? (i := 1094) (by decide +kernel), List.mem_of_getElem? (i := 1095) (by decide +kernel)⟩
theorem lw_p57 : lw_okq (⟨"NameScopesModel", "without", "(I)I"⟩, 26) := ⟨⟨by decide +kernel, by decide +kernel⟩, List.mem_of_getElem? (i := 731) (by decide +kernel), List.mem_of_getElem? (i := 1098) (by decide +kernel), List.mem_of_getElem? (i := 1099) (by decide +kernel)⟩
theorem lw_p58 : lw_okq (⟨"NameScopesModel", "deepest", "()I"⟩, 26) := ⟨⟨by decide +kernel, by decide +kernel⟩, List.mem_of_getElem? (i := 731) (by decide +kernel), List.mem_of_getElem? (i := 1102) (by decide +kernel), List.mem_of_getElem? (i := 1103) (by decide +kernel)⟩
theorem lw_p59 : lw_okq (⟨"NameScopesModel", "depth", "(I)I"⟩, 26) := ⟨⟨by decide +kernel, by decide +kernel⟩, List.mem_of_getElem? (i := 731) (by decide +kernel), List.mem_of_getElem? (i := 1106) (by decide +kernel), List.mem_of_getElem? (i := 1107) (by decide +kernel)⟩
theorem lw_p60 : lw_okq (⟨"NameScopesModel", "allPairs", "()I"⟩, 26) := ⟨⟨by decide +kernel, by decide +kernel⟩, List.mem_of_getElem? (i := 731) (by decide +kernel), List.mem_of_getElem? (i := 1110) (by decide +kernel), List.mem_of_getElem? (i := 1111) (by decide +kernel)⟩
theorem lw_p61 : lw_okq (⟨"NameScopesModel", "declarationNow", "(II)I"⟩, 26) := ⟨⟨by decide +kernel, by decide +kernel⟩, List.mem_of_getElem? (i := 731) (by decide +kernel), List.mem_of_getElem? (i := 1118) (by decide +kernel), List.mem_of_getElem? (i := 1119) (by decide +kernel)⟩
theorem lw_p62 : lw_okq (⟨"NameScopesModel", "offering", "(I)I"⟩, 26) := ⟨⟨by decide +kernel, by decide +kernel⟩, List.mem_of_getElem? (i := 731) (by decide +kernel), List.mem_of_getElem? (i := 1122) (by decide +kernel), List.mem_of_getElem? (i := 1123) (by decide +kernel)⟩
theorem lw_p63 : lw_okq (⟨"NameScopesModel", "reaching", "(I)I"⟩, 26) := ⟨⟨by decide +kernel, by decide +kernel⟩, List.mem_of_getElem? (i := 731) (by decide +kernel), List.mem_of_getElem? (i := 1126) (by decide +kernel), List.mem_of_getElem? (i := 1127) (by decide +kernel)⟩
def lw_privs_4 : List (MethodName × Nat) := [(⟨"NameScopesModel", "isDeclaration", "(I)Z"⟩, 26), (⟨"NameScopesModel", "renames", "(IIZ)I"⟩, 26), (⟨"NameScopesModel", "changeNames", "(II)V"⟩, 26), (⟨"NameScopesModel", "counted", "(I)I"⟩, 26), (⟨"NameScopesModel", "usesWith", "(II)I"⟩, 26), (⟨"NameScopesModel", "unused", "()I"⟩, 26), (⟨"NameScopesModel", "usesOf", "(I)I"⟩, 26), (⟨"NameScopesModel", "needless", "(Z)I"⟩, 26), (⟨"NameScopesModel", "pairsOf", "(I)I"⟩, 26), (⟨"NameScopesModel", "without", "(I)I"⟩, 26), (⟨"NameScopesModel", "deepest", "()I"⟩, 26), (⟨"NameScopesModel", "depth", "(I)I"⟩, 26), (⟨"NameScopesModel", "allPairs", "()I"⟩, 26), (⟨"NameScopesModel", "declarationNow", "(II)I"⟩, 26), (⟨"NameScopesModel", "offering", "(I)I"⟩, 26), (⟨"NameScopesModel", "reaching", "(I)I"⟩, 26)]
theorem lw_r4 : ∀ q ∈ lw_privs_4, lw_okq q := List.forall_mem_cons.mpr ⟨lw_p48, List.forall_mem_cons.mpr ⟨lw_p49, List.forall_mem_cons.mpr ⟨lw_p50, List.forall_mem_cons.mpr ⟨lw_p51, List.forall_mem_cons.mpr ⟨lw_p52, List.forall_mem_cons.mpr ⟨lw_p53, List.forall_mem_cons.mpr ⟨lw_p54, List.forall_mem_cons.mpr ⟨lw_p55, List.forall_mem_cons.mpr ⟨lw_p56, List.forall_mem_cons.mpr ⟨lw_p57, List.forall_mem_cons.mpr ⟨lw_p58, List.forall_mem_cons.mpr ⟨lw_p59, List.forall_mem_cons.mpr ⟨lw_p60, List.forall_mem_cons.mpr ⟨lw_p61, List.forall_mem_cons.mpr ⟨lw_p62, List.forall_mem_cons.mpr ⟨lw_p63, fun _ h => absurd h List.not_mem_nil⟩⟩⟩⟩⟩⟩⟩⟩⟩⟩⟩⟩⟩⟩⟩⟩
theorem lw_p64 : lw_okq (⟨"NameScopesModel", "importNow", "(II)I"⟩, 26) := ⟨⟨by decide +kernel, by decide +kernel⟩, List.mem_of_getElem? (i := 731) (by decide +kernel), List.mem_of_getElem? (i := 1134) (by decide +kernel), List.mem_of_getElem? (i := 1135) (by decide +kernel)⟩
theorem lw_p65 : lw_okq (⟨"NameScopesModel", "useNow", "(II)I"⟩, 26) := ⟨⟨by decide +kernel, by decide +kernel⟩, List.mem_of_getElem? (i := 731) (by decide +kernel), List.mem_of_getElem? (i := 1142) (by decide +kernel), List.mem_of_getElem? (i := 1143) (by decide +kernel)⟩
theorem lw_p66 : lw_okq (⟨"NameScopesModel", "mix", "(J)V"⟩, 26) := ⟨⟨by decide +kernel, by decide +kernel⟩, List.mem_of_getElem? (i := 731) (by decide +kernel), List.mem_of_getElem? (i := 1159) (by decide +kernel), List.mem_of_getElem? (i := 1160) (by decide +kernel)⟩
theorem lw_p67 : lw_okq (⟨"NameScopesModel", "mixParts", "()V"⟩, 26) := ⟨⟨by decide +kernel, by decide +kernel⟩, List.mem_of_getElem? (i := 731) (by decide +kernel), List.mem_of_getElem? (i := 1164) (by decide +kernel), List.mem_of_getElem? (i := 1165) (by decide +kernel)⟩
def lw_privs_5 : List (MethodName × Nat) := [(⟨"NameScopesModel", "importNow", "(II)I"⟩, 26), (⟨"NameScopesModel", "useNow", "(II)I"⟩, 26), (⟨"NameScopesModel", "mix", "(J)V"⟩, 26), (⟨"NameScopesModel", "mixParts", "()V"⟩, 26)]
theorem lw_r5 : ∀ q ∈ lw_privs_5, lw_okq q := List.forall_mem_cons.mpr ⟨lw_p64, List.forall_mem_cons.mpr ⟨lw_p65, List.forall_mem_cons.mpr ⟨lw_p66, List.forall_mem_cons.mpr ⟨lw_p67, fun _ h => absurd h List.not_mem_nil⟩⟩⟩⟩
def lw_privs : List (MethodName × Nat) := lw_privs_1 ++ (lw_privs_2 ++ (lw_privs_3 ++ (lw_privs_4 ++ (lw_privs_5))))
def lw_tbl : List Cond := k2_sels lw_privs ++ tables_1
theorem lw_privs_ok : ∀ q ∈ lw_privs, lw_okq q := by
  show ∀ q ∈ lw_privs_1 ++ (lw_privs_2 ++ (lw_privs_3 ++ (lw_privs_4 ++ (lw_privs_5)))), lw_okq q
  exact List.forall_mem_append.mpr ⟨lw_r1, List.forall_mem_append.mpr ⟨lw_r2, List.forall_mem_append.mpr ⟨lw_r3, List.forall_mem_append.mpr ⟨lw_r4, lw_r5⟩⟩⟩⟩
/-- the streams that the claim lets the run draw from -/
abbrev lw_cs : List Choice := [Jvm.Choice.named "NaN.bits"]
theorem lw_bits : nanBits ∈ lw_cs := by first | decide | exact List.mem_cons_self | simp [lw_cs, nanBits]
-- ===== end of PART A; then your names; then what follows =====
/-! ===== BEGIN words of one list among another's, by their places ===== -/
theorem goodIn_r {big : List Cond} (ws : List Cond) (ps : List Nat) (hp : ws = ps.filterMap (fun i => big[i]?)) (h : ws.all goodWord = true) : GoodIn big ws := by
  intro w hw
  have h1 := List.all_eq_true.mp h w hw
  rw [hp] at hw
  obtain ⟨i, -, hi⟩ := List.mem_filterMap.mp hw
  have hm : w ∈ big := by first | exact List.mem_of_getElem? hi | exact List.getElem?_mem hi
  exact ⟨hm, good_of_word h1⟩
theorem goodIn_app {big a b : List Cond} (ha : GoodIn big a) (hb : GoodIn big b) : GoodIn big (a ++ b) := fun w h => (List.mem_append.mp h).elim (ha w) (hb w)
theorem goodIn_ca {big a b : List Cond} {c : Cond} (ha : GoodIn big (c :: a)) (hb : GoodIn big b) : GoodIn big (c :: (a ++ b)) := fun w h => (List.mem_cons.mp h).elim (fun e => ha w (List.mem_cons.mpr (Or.inl e))) (fun h => (List.mem_append.mp h).elim (fun h => ha w (List.mem_cons.mpr (Or.inr h))) (hb w))
theorem goodIn_sub {big ws : List Cond} (hm : ∀ w ∈ ws, w ∈ big) (h : ws.all goodWord = true) : GoodIn big ws := fun w hw => ⟨hm w hw, good_of_word (List.all_eq_true.mp h w hw)⟩
/-! ===== END ===== -/

/-! ===== BEGIN exceptions that leave a method, and their catching by the caller (launches without stack traces) ===== -/
section VXA
/-! The laws vx_back, vx_callV, vx_callS, vx_callSW, vx_throw0, vx_throwS follow proofs of the library, with one case more: JvmDerived/Free/Laws.lean (Back.of_free), Shelf42/LK1.lean (callV, callS), Shelf/KitTraced.lean (throwNew0V, throwNewS). -/
/-- where a method has thrown q: the class by its name, the cell, what was written, the world -/
def vx_T (XC : String → State → State → Prop) (st : State) (q : Addr) (t : State) (mc ms : Nat) (free : Addr → Prop) : Prop :=
  ∃ (E : String) (ce : Cell) (L : List Loc), XC E st t ∧ t.heap[q]? = some ce ∧ ce.vm = .none ∧ st.vm.findClass E = some ce.cls ∧ st.WarmedH t.vm ∧ st.sameButNew ({ t with vm := st.vm } : State) L mc ms ∧ ∀ z ∈ L, free z.base
def vx_Q (Qc : Array Value → State → Outcome → State → Prop) (XC : String → State → State → Prop) (mc ms : Nat) (free : Addr → Prop) : Array Value → State → Outcome → State → Prop := fun a st o t =>
  (Qc a st o t ∧ ∃ L, FrameEnd st o t L mc ms ∧ ∀ q ∈ L, free q.base) ∨ ∃ q, o = .threw q ∧ vx_T XC st q t mc ms free
/-- a callee that returns or throws -/
def vx_Met (l : Launch) (y : MethodName) (ws : List Cond) (rm : Room) (Pc : Array Value → State → Prop) (Qc : Array Value → State → Outcome → State → Prop) (XC : String → State → State → Prop) (mc ms : Nat) (free : Addr → Prop) : Prop :=
  MetFree l y (headSpec ws rm) Pc (fun _ _ _ _ _ => True) (vx_Q Qc XC mc ms free)
def vx_Post (XC : String → State → State → Prop) (mc ms : Nat) (free : Addr → Prop) : Pt → Array Value → Addr → Pt → Prop := fun A a q B =>
  ∃ (g : JFrame) (mk : MethodId) (t : State) (L : List Loc) (E : String) (ce : Cell), B.U.heap = t.heap ∧ B.U.vm = t.vm ∧ XC E (A.U.calling g mk a) t ∧ t.heap[q]? = some ce ∧ ce.vm = .none ∧ A.U.vm.findClass E = some ce.cls ∧ B.locs = A.locs ++ L ∧ (∀ z ∈ L, free z.base) ∧ B.cells = A.cells + mc ∧ B.slots = A.slots + ms
def vx_Back (l : Launch) (R : Room) (p : Program) (e : Env) (below : List Frame) (s : State) (sargs : Array Value) (y : MethodName) (len W9 : Nat)
    (Pre : Pt → Array Value → Prop) (Post : Pt → Array Value → Option Value → Pt → Prop) (PostX : Pt → Array Value → Addr → Pt → Prop) : Prop :=
  ∀ (m : MethodId) (meth : Method) (c : Code) (A : Pt) (g : JFrame) (ig : Instr) (mk : MethodId) (a : Array Value),
    Stand p l e R s m sargs below meth c A.U A.locs A.cells A.slots → g.method = m → g.locals.size = c.maxLocals → decode c.code g.pc = .ok (ig, len) →
    2 * g.monitorRoom + (g.stack.map fun v => v.category).sum ≤ W9 → A.U.methodNamed? y = some mk → Pre A a →
    (∃ (v : Option Value) (B : Pt), Stand p l e R s m sargs below meth c B.U B.locs B.cells B.slots ∧ Post A a v B ∧
      Steps p.tables e below (doInvoke e (A.U.setTop g) [] mk a).1 (B.U.setTop { g with pc := g.pc + len, stack := v.toList ++ g.stack })) ∨
    (∃ (q : Addr) (B : Pt), Stand p l e R s m sargs below meth c B.U B.locs B.cells B.slots ∧ PostX A a q B ∧
      Steps p.tables e below (doInvoke e (A.U.setTop g) [] mk a).1 ((B.U.setTop g).pushFrame (.throwing q)))
section Payer
variable {l : Launch} {R : Room} {p : Program} {e : Env} {below : List Frame} {s : State} {sargs : Array Value} {y : MethodName} {len W9 : Nat}
theorem vx_back {ws : List Cond} {rm : Room} {Pc : Array Value → State → Prop} {Qc : Array Value → State → Outcome → State → Prop} {XC : String → State → State → Prop} {mc ms : Nat} {free : Addr → Prop} {bytes : ByteArray} {maxL : Nat} {ret : Option FieldType}
    (hM : vx_Met l y ws rm Pc Qc XC mc ms free) (hblind : FrameBlind Pc) (hrc : rm.cells = mc) (hrs : rm.slots = ms)
    (hframes : rm.frames + 1 ≤ R.frames) (hlocals : W9 + (maxL + 11) + rm.locals ≤ R.locals)
    (hws : ∀ w ∈ ws, ∀ a' U, s.WarmedH U.vm → w.before a' U = true) (hcode : Cond.code y bytes maxL ret ∈ ws) (hinit : ∀ a' U, s.WarmedH U.vm → (Cond.initialized y.cls).before a' U = true) :
    vx_Back l R p e below s sargs y len W9 (PreOf R mc ms Pc) (PostOf Qc mc ms free) (vx_Post XC mc ms free) := by
  intro m meth c A g ig mk a X hg hsize hdg hW hn hp
  have h1 : (headSpec ws rm).pre.before a A.U = true := atoms_intro fun w hw => hws w hw _ _ X.warmed
  have h2 : (Cond.code y bytes maxL ret).before a A.U = true := hws _ hcode _ _ X.warmed
  have h3 : (Cond.initialized y.cls).before a A.U = true := hinit _ _ X.warmed
  have h4 : A.cells + (headSpec ws rm).room.cells ≤ R.cells := by rw [show (headSpec ws rm).room.cells = mc from hrc]; exact hp.1
  have h5 : A.slots + (headSpec ws rm).room.slots ≤ R.slots := by rw [show (headSpec ws rm).room.slots = ms from hrs]; exact hp.2.1
  have hPc : Pc a (A.U.calling g mk a) := hblind _ _ _ _ hp.2.2
  obtain ⟨U, Ls, c0, s0⟩ := A
  dsimp only [Pt.U, Pt.locs, Pt.cells, Pt.slots] at h1 h2 h3 h4 h5 X hn hPc ⊢
  obtain ⟨methY, cY, hmY, hcY, -, hlY, -, -, -, -⟩ := Cond.code_spec hn h2
  obtain ⟨kY, hkY, -⟩ := className_of_methodNamed hn
  have hinitY : kY.init = .initialized := Cond.initialized_spec (findClass_of_methodNamed hn) hkY h3
  have h : At U g.method c below := by rw [hg]; exact X.here
  have hlocals9 : W9 + (maxL + 11) + (headSpec ws rm).room.locals ≤ R.locals := hlocals
  have happ : (headSpec ws rm).appliesLoose y e.platform (U.calling g mk a) = true :=
    Spec.appliesLoose_calling (g := g) h hdg hn hkY hinitY
      (X.room_calling (g := g) (R' := (headSpec ws rm).room) hsize hmY hcY hframes (by rw [hlY]; omega) h4 h5) h1
  obtain ⟨mid, hmid⟩ := h.above
  have hfr : (U.setTop g).frames = (.java g :: mid) ++ below := by rw [State.frames_setTop' g h.top, hmid]; rfl
  obtain ⟨o, s₂, hsteps, -, hend, hq⟩ := Steps.callFree hM p X.admits X.cas X.clock (acts := []) hfr happ hPc trivial
  have hq' : vx_Q Qc XC mc ms free a (U.calling g mk a) o s₂ := hq
  rw [State.frames_setTop' g h.top] at hend
  obtain ⟨g₀, hg0⟩ := Option.isSome_iff_exists.mp h.top
  obtain ⟨r, hr⟩ := State.topJava?_eq_some.mp hg0
  have hr' : (({ U with heap := s₂.heap, slotsUsed := s₂.slotsUsed } : State).setVm s₂.vm).frames = .java g₀ :: r := hr
  rcases hq' with ⟨hqc, L, hfe, hL⟩ | ⟨q, rfl, E, ce, L, hx, hce, hcv, hcl, hW₂, hsm, hL⟩
  · obtain ⟨⟨v, rfl⟩, hW₂, e2, q2, q3, q4, q5, q6⟩ := id hfe
    have e3 : s₂ = ({ (U.calling g mk a).setFrames s₂.frames with heap := s₂.heap, slotsUsed := s₂.slotsUsed } : State).setVm s₂.vm := by
      have : s₂ = ({ s₂ with vm := (U.calling g mk a).vm } : State).setVm s₂.vm := rfl
      rw [e2] at this
      exact this
    obtain ⟨c₂, i₂, len₂, hc₂, hd₂, hf₂⟩ := hend
    have hW' : U.WarmedH s₂.vm := hW₂
    have hcc : c₂ = c := by
      have h1 : s₂.code? g.method = U.code? g.method := by
        rw [State.code?_eq, State.code?_eq, hW'.alike.method?]
      exact Option.some.inj (hc₂.symm.trans (h1.trans h.code))
    subst hcc
    have hlen : len₂ = len := by rw [hdg] at hd₂; cases hd₂; rfl
    subst hlen
    have hs₂ : s₂ = (({ U with heap := s₂.heap, slotsUsed := s₂.slotsUsed } : State).setVm s₂.vm).setTop { g with pc := g.pc + len₂, stack := v.toList ++ g.stack } := by
      refine e3.trans ?_
      rw [hf₂, State.calling_eq h.top, State.setFrames_setFrames, State.setTop_of_frames _ hr', hr]
      rfl
    have hsame : U.sameButNew ({ U with heap := s₂.heap, slotsUsed := s₂.slotsUsed } : State) L mc ms := by
      refine ⟨?_, q2, q3, q4, q5, q6⟩
      obtain ⟨t, ht, -⟩ := State.frames_cons hr
      show ({ U with heap := s₂.heap, slotsUsed := s₂.slotsUsed } : State) = { U.setFrames U.frames with heap := s₂.heap, slotsUsed := s₂.slotsUsed }
      rw [State.setFrames_self ht]
    subst hg
    refine Or.inl ⟨v, ⟨(({ U with heap := s₂.heap, slotsUsed := s₂.slotsUsed } : State).setVm s₂.vm), Ls ++ L, c0 + mc, s0 + ms⟩,
      ⟨X.admits, X.cas, X.clock, X.frames, X.room, X.hears, X.method, X.code, (X.here.setHeapUsed s₂.heap s₂.slotsUsed).setVm hW'.alike, X.tail, State.WarmedH.trans X.warmed hW', X.limits, X.bytes, X.same.trans (hsame.setVm s.vm)⟩,
      ⟨g, mk, s₂, L, rfl, rfl, hqc, rfl, hL, rfl, rfl⟩, ?_⟩
    show Steps p.tables e below _ ((({ U with heap := s₂.heap, slotsUsed := s₂.slotsUsed } : State).setVm s₂.vm).setTop { g with pc := g.pc + len₂, stack := v.toList ++ g.stack })
    rw [← hs₂]
    exact hsteps
  · obtain ⟨e2, q2, q3, q4, q5, q6⟩ := id hsm
    have e3 : s₂ = ({ (U.calling g mk a).setFrames s₂.frames with heap := s₂.heap, slotsUsed := s₂.slotsUsed } : State).setVm s₂.vm := by
      have : s₂ = ({ s₂ with vm := (U.calling g mk a).vm } : State).setVm s₂.vm := rfl
      rw [e2] at this
      exact this
    have hf₂ : s₂.frames = .throwing q :: .java g :: U.frames.tail := hend
    have hW' : U.WarmedH s₂.vm := hW₂
    have hs₂ : s₂ = ((({ U with heap := s₂.heap, slotsUsed := s₂.slotsUsed } : State).setVm s₂.vm).setTop g).pushFrame (.throwing q) := by
      refine e3.trans ?_
      rw [hf₂, State.calling_eq h.top, State.setFrames_setFrames, State.pushFrame, State.frames_setTop _ hr', State.setTop_of_frames _ hr', State.setFrames_setFrames, hr]
      rfl
    have hsame : U.sameButNew ({ U with heap := s₂.heap, slotsUsed := s₂.slotsUsed } : State) L mc ms := by
      refine ⟨?_, q2, q3, q4, q5, q6⟩
      obtain ⟨t, ht, -⟩ := State.frames_cons hr
      show ({ U with heap := s₂.heap, slotsUsed := s₂.slotsUsed } : State) = { U.setFrames U.frames with heap := s₂.heap, slotsUsed := s₂.slotsUsed }
      rw [State.setFrames_self ht]
    subst hg
    refine Or.inr ⟨q, ⟨(({ U with heap := s₂.heap, slotsUsed := s₂.slotsUsed } : State).setVm s₂.vm), Ls ++ L, c0 + mc, s0 + ms⟩,
      ⟨X.admits, X.cas, X.clock, X.frames, X.room, X.hears, X.method, X.code, (X.here.setHeapUsed s₂.heap s₂.slotsUsed).setVm hW'.alike, X.tail, State.WarmedH.trans X.warmed hW', X.limits, X.bytes, X.same.trans (hsame.setVm s.vm)⟩,
      ⟨g, mk, s₂, L, E, ce, rfl, rfl, hx, hce, hcv, hcl, rfl, hL, rfl, rfl⟩, ?_⟩
    show Steps p.tables e below _ (((({ U with heap := s₂.heap, slotsUsed := s₂.slotsUsed } : State).setVm s₂.vm).setTop g).pushFrame (.throwing q))
    rw [← hs₂]
    exact hsteps
end Payer
section Calls
variable {p : Program} {l : Launch} {e : Env} {R : Room} {s : State} {m : MethodId} {args : Array Value} {below : List Frame} {meth : Method} {c : Code} {T : State} {locs : List Loc} {cells slots : Nat}
theorem vx_callV (X : Stand p l e R s m args below meth c T locs cells slots) (hexec : p.tables.exec = Jvm.exec) {own C : String} {index : Nat} {y : MethodName} {bytes : ByteArray} {maxL : Nat} {ret : Option FieldType}
    (hown : s.vm.findClass own = some m.cls) (hlink : (Cond.methodLink own index y).before args s = true) (hinst : (Cond.instanceMethod y).before args s = true) (hsel : (Cond.selects C y y).before args s = true)
    (hcode : (Cond.code y bytes maxL ret).before args s = true) (hy : y.cls ≠ "java/lang/invoke/MethodHandle" ∧ y.cls ≠ "java/lang/invoke/VarHandle")
    {W9 : Nat} {Pre : Pt → Array Value → Prop} {Post : Pt → Array Value → Option Value → Pt → Prop} {PostX : Pt → Array Value → Addr → Pt → Prop} (hK : vx_Back l R p e below s args y 3 W9 Pre Post PostX)
    {b : Addr} {cellB : Cell} (hcell : T.heap[b]? = some cellB) (hobj : cellB.vm.isStatics = false) (hcls : s.vm.findClass C = some cellB.cls)
    {g : JFrame} (hg : g.method = m) (hsize : g.locals.size = c.maxLocals) {argsL rest : List Value} (hlen : ∀ sig, parseMethodDescriptor y.desc = some sig → argsL.length = sig.parameters.length)
    (hstack : g.stack = argsL.reverse ++ .ref b :: rest) (hW : 2 * g.monitorRoom + (rest.map fun v => v.category).sum ≤ W9) (hdg : decode c.code g.pc = .ok (.invokevirtual index, 3))
    (hpre : ∀ vm₁, s.WarmedH vm₁ → Pre ⟨T.setVm vm₁, locs, cells, slots⟩ (Value.ref b :: argsL).toArray) :
    (∃ (v : Option Value) (vm₁ : Vm) (B : Pt), s.WarmedH vm₁ ∧ Stand p l e R s m args below meth c B.U B.locs B.cells B.slots ∧ Post ⟨T.setVm vm₁, locs, cells, slots⟩ (Value.ref b :: argsL).toArray v B ∧
      ∀ target, Steps p.tables e below (B.U.setTop { g with pc := g.pc + 3, stack := v.toList ++ rest }) target → Steps p.tables e below (T.setTop g) target) ∨
    (∃ (q : Addr) (vm₁ : Vm) (B : Pt), s.WarmedH vm₁ ∧ Stand p l e R s m args below meth c B.U B.locs B.cells B.slots ∧ PostX ⟨T.setVm vm₁, locs, cells, slots⟩ (Value.ref b :: argsL).toArray q B ∧
      Steps p.tables e below (T.setTop g) ((B.U.setTop { g with stack := rest }).pushFrame (.throwing q))) := by
  obtain ⟨mk, methM, hnamed, hmethM, hstM, habM⟩ := Cond.instanceMethod_spec hinst
  obtain ⟨methM', cM, hmethM', -, -, -, -, -, -, hsigM⟩ := Cond.code_spec hnamed hcode
  cases hmethM.symm.trans hmethM'
  obtain ⟨c2, r2, m2, q1, q2, q3, q4, kP, hkP, hkPi⟩ := Cond.selects_spec hsel
  cases hcls.symm.trans q1
  cases (State.methodFound?_of_named hnamed hy).symm.trans q2
  cases hnamed.symm.trans q3
  have hselP : selectMethod e.platform s.vm cellB.cls mk = .method mk := by rw [Launch.admits_selectMethod X.admits]; exact q4
  obtain ⟨vm₁, X₁, hstep₁⟩ := X.invokevirtual hexec hown hlink hnamed hmethM hstM hkP hkPi hy (a := b) (cell := cellB) hcell
    (fun z h => by rw [h] at hobj; cases hobj) hselP hmethM habM hkP hkPi (g := g) hg (argsL := argsL) (rest := rest) (hlen _ hsigM) hstack hdg
  rcases hK m meth c ⟨T.setVm vm₁, locs, cells, slots⟩ { g with stack := rest } (.invokevirtual index) mk (Value.ref b :: argsL).toArray X₁ hg hsize hdg hW (X₁.named hnamed) (hpre vm₁ X₁.warmed) with ⟨v, B, X', hpost, hsteps⟩ | ⟨q, B, X', hpost, hsteps⟩
  · exact Or.inl ⟨v, vm₁, B, X₁.warmed, X', hpost, fun target h => hstep₁ _ fun acts => by rw [doInvoke_state]; exact hsteps.trans h⟩
  · exact Or.inr ⟨q, vm₁, B, X₁.warmed, X', hpost, hstep₁ _ fun acts => by rw [doInvoke_state]; exact hsteps⟩
theorem vx_callS (X : Stand p l e R s m args below meth c T locs cells slots) (hexec : p.tables.exec = Jvm.exec) {own : String} {index : Nat} {y : MethodName} {bytes : ByteArray} {maxL : Nat} {ret : Option FieldType}
    (hown : s.vm.findClass own = some m.cls) (hlink : (Cond.methodLink own index y).before args s = true) (hstat : (Cond.static y).before args s = true) (hinit : (Cond.initialized y.cls).before args s = true)
    (hcode : (Cond.code y bytes maxL ret).before args s = true) (hy : y.cls ≠ "java/lang/invoke/MethodHandle" ∧ y.cls ≠ "java/lang/invoke/VarHandle")
    {W9 : Nat} {Pre : Pt → Array Value → Prop} {Post : Pt → Array Value → Option Value → Pt → Prop} {PostX : Pt → Array Value → Addr → Pt → Prop} (hK : vx_Back l R p e below s args y 3 W9 Pre Post PostX)
    {g : JFrame} (hg : g.method = m) (hsize : g.locals.size = c.maxLocals) {argsL rest : List Value} (hlen : ∀ sig, parseMethodDescriptor y.desc = some sig → argsL.length = sig.parameters.length)
    (hstack : g.stack = argsL.reverse ++ rest) (hW : 2 * g.monitorRoom + (rest.map fun v => v.category).sum ≤ W9) (hdg : decode c.code g.pc = .ok (.invokestatic index, 3))
    (hpre : ∀ vm₁, s.WarmedH vm₁ → Pre ⟨T.setVm vm₁, locs, cells, slots⟩ argsL.toArray) :
    (∃ (v : Option Value) (vm₁ : Vm) (B : Pt), s.WarmedH vm₁ ∧ Stand p l e R s m args below meth c B.U B.locs B.cells B.slots ∧ Post ⟨T.setVm vm₁, locs, cells, slots⟩ argsL.toArray v B ∧
      ∀ target, Steps p.tables e below (B.U.setTop { g with pc := g.pc + 3, stack := v.toList ++ rest }) target → Steps p.tables e below (T.setTop g) target) ∨
    (∃ (q : Addr) (vm₁ : Vm) (B : Pt), s.WarmedH vm₁ ∧ Stand p l e R s m args below meth c B.U B.locs B.cells B.slots ∧ PostX ⟨T.setVm vm₁, locs, cells, slots⟩ argsL.toArray q B ∧
      Steps p.tables e below (T.setTop g) ((B.U.setTop { g with stack := rest }).pushFrame (.throwing q))) := by
  obtain ⟨mk, hnamed⟩ := Cond.code_named hcode
  obtain ⟨methM, cM, hmethM, -, -, -, -, -, -, hsigM⟩ := Cond.code_spec hnamed hcode
  have hstatic : methM.isStatic = true := Cond.static_spec hnamed hmethM hstat
  obtain ⟨kP, hkP, -⟩ := className_of_methodNamed hnamed
  have hinitP : kP.init = .initialized := Cond.initialized_spec (findClass_of_methodNamed hnamed) hkP hinit
  obtain ⟨vm₁, X₁, hstep₁⟩ := X.invokestatic hexec hown hlink hnamed hmethM hstatic hkP hinitP hy (g := g) hg (argsL := argsL) (rest := rest) (hlen _ hsigM) hstack hdg
  rcases hK m meth c ⟨T.setVm vm₁, locs, cells, slots⟩ { g with stack := rest } (.invokestatic index) mk argsL.toArray X₁ hg hsize hdg hW (X₁.named hnamed) (hpre vm₁ X₁.warmed) with ⟨v, B, X', hpost, hsteps⟩ | ⟨q, B, X', hpost, hsteps⟩
  · exact Or.inl ⟨v, vm₁, B, X₁.warmed, X', hpost, fun target h => hstep₁ _ fun acts => by rw [doInvoke_state]; exact hsteps.trans h⟩
  · exact Or.inr ⟨q, vm₁, B, X₁.warmed, X', hpost, hstep₁ _ fun acts => by rw [doInvoke_state]; exact hsteps⟩
end Calls
theorem vx_cls {s : State} {T : State} {vm₁ : Vm} {E : String} {k : ClassId} (hW : s.WarmedH vm₁) (h : (T.setVm vm₁).vm.findClass E = some k) : s.vm.findClass E = some k := by
  have h1 : vm₁.findClass E = some k := h
  rw [hW.alike.findClass] at h1
  exact h1
/-- the method's frame g, with q thrown over it -/
def vx_W (p : Program) (l : Launch) (e : Env) (R : Room) (s : State) (m : MethodId) (args : Array Value) (below : List Frame) (meth : Method) (c : Code) (H : Heap) (locs : List Loc) (cells slots : Nat) (Q : State → Prop) (g : JFrame) (q : Addr) : Prop :=
  ∀ T : State, T.heap = H → Stand p l e R s m args below meth c T locs cells slots → ∃ t, Steps p.tables e below ((T.setTop g).pushFrame (.throwing q)) t ∧ Q t
def vx_Run (p : Program) (l : Launch) (e : Env) (R : Room) (s : State) (m : MethodId) (args : Array Value) (below : List Frame) (meth : Method) (c : Code) (H : Heap) (locs : List Loc) (cells slots mc ms : Nat) (g : JFrame) (rest : List Value) (Qa : State → Outcome → State → Prop) (XC : String → State → State → Prop) (free : Addr → Prop) : Prop :=
  ∀ T : State, T.heap = H → Stand p l e R s m args below meth c T locs cells slots →
    (∃ (v : Option Value) (st₀ t T' : State) (L : List Loc), st₀.heap = H ∧ Stand p l e R s m args below meth c T' (locs ++ L) (cells + mc) (slots + ms) ∧ (∀ q ∈ L, free q.base) ∧ T'.heap = t.heap ∧ T'.vm = t.vm ∧ Qa st₀ (.returned v) t ∧
      Goes p e below T g T' { g with pc := g.pc + 3, stack := v.toList ++ rest }) ∨
    (∃ (q : Addr) (st₀ t T' : State) (L : List Loc) (E : String) (ce : Cell), st₀.heap = H ∧ Stand p l e R s m args below meth c T' (locs ++ L) (cells + mc) (slots + ms) ∧ (∀ z ∈ L, free z.base) ∧ T'.heap = t.heap ∧ T'.vm = t.vm ∧ XC E st₀ t ∧ t.heap[q]? = some ce ∧ ce.vm = .none ∧ s.vm.findClass E = some ce.cls ∧
      Steps p.tables e below (T.setTop g) ((T'.setTop { g with stack := rest }).pushFrame (.throwing q)))
def vx_X {S : Type} (px : S → Prop) (B : String → S → State → Prop) (A : Nat → Prop) : String → State → State → Prop := fun E st t => ∃ u : S, px u ∧ B E u t ∧ va_F A st t
section Runs
variable {p : Program} {l : Launch} {e : Env} {R : Room} {s : State} {m : MethodId} {args : Array Value} {below : List Frame} {meth : Method} {c : Code} {H : Heap} {locs : List Loc} {cells slots : Nat}
variable {y : MethodName} {bytes cc : ByteArray} {maxL nL mc ms n index : Nat} {ret : Option FieldType} {ws : List Cond} {rm : Room} {Pc : Array Value → State → Prop} {Qc : Array Value → State → Outcome → State → Prop} {XC : String → State → State → Prop} {free : Addr → Prop} {Ts : List Cond} {own C : String} {b : Addr} {As rest : List Value} {g : JFrame}
theorem vx_callBack (cb : CallB R s args own index y bytes maxL ret ws rm mc ms n) (hM : vx_Met l y ws rm Pc Qc XC mc ms free) (hbl : FrameBlind Pc) : vx_Back l R p e below s args y 3 8 (PreOf R mc ms Pc) (PostOf Qc mc ms free) (vx_Post XC mc ms free) := by
  obtain ⟨hrc, hrs, hfr, hlo, hws, hcw, -, hini, -⟩ := cb
  exact vx_back (bytes := bytes) (maxL := maxL) (ret := ret) hM hbl hrc hrs hfr hlo hws hcw (fun a' U hW => word_at hW (Or.inl (by first | rfl | simp [Cond.onTables, Cond.keeps, Cond.steady])) hini)
theorem vx_runV (S : CallFix p m c cc nL s args Ts own) (hM : vx_Met l y ws rm Pc Qc XC mc ms free) (cw : CallW R s args own C index y bytes maxL ret ws rm mc ms n) (hp : PreV s H C b Pc As)
    (hg : g.method = m) (hn : As.length = n) (hsize : g.locals.size = nL) (hstack : g.stack = As.reverse ++ .ref b :: rest) (hW : 2 * g.monitorRoom + (rest.map fun v => v.category).sum ≤ 8) (hdg : decode cc g.pc = .ok (.invokevirtual index, 3)) (hf : cells + mc ≤ R.cells ∧ slots + ms ≤ R.slots) :
    vx_Run p l e R s m args below meth c H locs cells slots mc ms g rest (Qc (Value.ref b :: As).toArray) XC free := by
  have hK : vx_Back l R p e below s args y 3 8 (PreOf R mc ms Pc) (PostOf Qc mc ms free) (vx_Post XC mc ms free) := vx_callBack cw.1 hM hp.1
  obtain ⟨⟨-, -, -, -, -, -, hcode, -, hy, hlen, hl⟩, hin, hse⟩ := cw
  obtain ⟨hx, hb, hml, ho, -⟩ := S
  obtain ⟨-, ⟨cellB, hcB, hoB, hclB⟩, hPc⟩ := hp
  intro T hT X
  rcases vx_callV X hx (C := C) (bytes := bytes) (maxL := maxL) (ret := ret) ho hl hin hse hcode hy hK (by rw [hT]; exact hcB) hoB hclB hg (hsize.trans hml.symm) (argsL := As) (rest := rest) (fun sig h => hn.trans (hlen sig h)) hstack hW (by rw [hb]; exact hdg)
    (fun vm₁ hW₁ => ⟨hf.1, hf.2, hPc (T.setVm vm₁) hT hW₁⟩) with ⟨v, vm₁, ⟨U', l2, c2, s2⟩, hW₁, X', ⟨g', mk, t, L, e1, e2, hq, h1, hL, h2, h3⟩, st⟩ | ⟨q, vm₁, ⟨U', l2, c2, s2⟩, hW₁, X', ⟨g', mk, t, L, E, ce, e1, e2, hq, hce, hcv, hcl, h1, hL, h2, h3⟩, st⟩
  · dsimp only [Pt.U, Pt.locs, Pt.cells, Pt.slots] at X' e1 e2 h1 h2 h3 st
    subst h1; subst h2; subst h3
    exact Or.inl ⟨v, (T.setVm vm₁).calling g' mk (Value.ref b :: As).toArray, t, U', L, hT, X', hL, e1, e2, hq, st⟩
  · dsimp only [Pt.U, Pt.locs, Pt.cells, Pt.slots] at X' e1 e2 h1 h2 h3 st hcl
    subst h1; subst h2; subst h3
    exact Or.inr ⟨q, (T.setVm vm₁).calling g' mk (Value.ref b :: As).toArray, t, U', L, E, ce, hT, X', hL, e1, e2, hq, hce, hcv, vx_cls hW₁ hcl, st⟩
theorem vx_runS (S : CallFix p m c cc nL s args Ts own) (hM : vx_Met l y ws rm Pc Qc XC mc ms free) (cw : CallB R s args own index y bytes maxL ret ws rm mc ms n ∧ (Cond.static y).before args s = true) (hp : PreS s H Pc As)
    (hg : g.method = m) (hn : As.length = n) (hsize : g.locals.size = nL) (hstack : g.stack = As.reverse ++ rest) (hW : 2 * g.monitorRoom + (rest.map fun v => v.category).sum ≤ 8) (hdg : decode cc g.pc = .ok (.invokestatic index, 3)) (hf : cells + mc ≤ R.cells ∧ slots + ms ≤ R.slots) :
    vx_Run p l e R s m args below meth c H locs cells slots mc ms g rest (Qc As.toArray) XC free := by
  have hK : vx_Back l R p e below s args y 3 8 (PreOf R mc ms Pc) (PostOf Qc mc ms free) (vx_Post XC mc ms free) := vx_callBack cw.1 hM hp.1
  obtain ⟨⟨-, -, -, -, -, -, hcode, hini, hy, hlen, hl⟩, hstt⟩ := cw
  obtain ⟨hx, hb, hml, ho, -⟩ := S
  intro T hT X
  rcases vx_callS X hx (bytes := bytes) (maxL := maxL) (ret := ret) ho hl hstt hini hcode hy hK hg (hsize.trans hml.symm) (argsL := As) (rest := rest) (fun sig h => hn.trans (hlen sig h)) hstack hW (by rw [hb]; exact hdg)
    (fun vm₁ hW₁ => ⟨hf.1, hf.2, hp.2 (T.setVm vm₁) hT hW₁⟩) with ⟨v, vm₁, ⟨U', l2, c2, s2⟩, hW₁, X', ⟨g', mk, t, L, e1, e2, hq, h1, hL, h2, h3⟩, st⟩ | ⟨q, vm₁, ⟨U', l2, c2, s2⟩, hW₁, X', ⟨g', mk, t, L, E, ce, e1, e2, hq, hce, hcv, hcl, h1, hL, h2, h3⟩, st⟩
  · dsimp only [Pt.U, Pt.locs, Pt.cells, Pt.slots] at X' e1 e2 h1 h2 h3 st
    subst h1; subst h2; subst h3
    exact Or.inl ⟨v, (T.setVm vm₁).calling g' mk As.toArray, t, U', L, hT, X', hL, e1, e2, hq, st⟩
  · dsimp only [Pt.U, Pt.locs, Pt.cells, Pt.slots] at X' e1 e2 h1 h2 h3 st hcl
    subst h1; subst h2; subst h3
    exact Or.inr ⟨q, (T.setVm vm₁).calling g' mk As.toArray, t, U', L, E, ce, hT, X', hL, e1, e2, hq, hce, hcv, vx_cls hW₁ hcl, st⟩
end Runs
section Rows
variable {p : Program} {l : Launch} {e : Env} {R : Room} {s : State} {m : MethodId} {args : Array Value} {below : List Frame} {meth : Method} {c : Code} {H : Heap} {locs : List Loc} {cells slots : Nat} {Q : State → Prop}
variable {mc ms : Nat} {free : Addr → Prop} {A0 A1 : Nat → Prop} {H0 : Heap} {a : Array Value} {pc : Nat} {ls : Array Slot} {st0 rest : List Value}
theorem vx_keep {st₀ t T' : State} {L : List Loc} (h0 : st₀.heap = H) (e1 : T'.heap = t.heap) (hS : va_S A0 H0 H locs) (hA : ∀ q, q < H.size → A1 q → A0 q) (hf : ∀ q, free q → A0 q) (hL : ∀ q ∈ L, free q.base) (hF : va_F A1 st₀ t) :
    H.size ≤ T'.heap.size ∧ (∀ q : Nat, q < H.size → ¬ A1 q → T'.heap[q]? = H[q]?) ∧ va_S A0 H0 T'.heap (locs ++ L) := by
  obtain ⟨hz, hk⟩ := hF
  rw [h0] at hz hk
  exact ⟨by rw [e1]; exact hz, fun q h1 h2 => by rw [e1]; exact hk q h1 h2,
    ⟨Nat.le_trans hS.1 (by rw [e1]; exact hz), fun q h1 h2 => by rw [e1, hk q (Nat.lt_of_lt_of_le h1 hS.1) (fun z => h2 (hA q (Nat.lt_of_lt_of_le h1 hS.1) z))]; exact hS.2.1 q h1 h2, fun q hq => by
      rcases List.mem_append.mp hq with h | h
      · exact hS.2.2 q h
      · exact hf _ (hL q h)⟩⟩
theorem vx_calli {S SX : Type} {post : Int32 → S → Prop} {px : SX → Prop} {B : S → State → Prop} {BX : String → SX → State → Prop} {AX : Nat → Prop} (hr : vx_Run p l e R s m args below meth c H locs cells slots mc ms (F0 m pc ls st0) rest (va_Qi post B A1 a) (vx_X px BX AX) free) (hS : va_S A0 H0 H locs) (hA : ∀ q, q < H.size → A1 q → A0 q) (hf : ∀ q, free q → A0 q) (hAX : ∀ q, q < H.size → AX q → A0 q)
    (kx : ∀ (E : String) (ce : Cell) (q9 : Addr) (u : SX) (t : State) (H1 : Heap) (locs1 : List Loc), t.heap = H1 → s.vm.Alike t.vm → px u → BX E u t → H.size ≤ H1.size → (∀ q : Nat, q < H.size → ¬ AX q → H1[q]? = H[q]?) → va_S A0 H0 H1 locs1 → H1[q9]? = some ce → ce.vm = .none → s.vm.findClass E = some ce.cls → vx_W p l e R s m args below meth c H1 locs1 (cells + mc) (slots + ms) Q (F0 m pc ls rest) q9)
    (kk : ∀ (r : Int32) (u : S) (t : State) (H1 : Heap) (locs1 : List Loc), t.heap = H1 → s.vm.Alike t.vm → post r u → B u t → H.size ≤ H1.size → (∀ q : Nat, q < H.size → ¬ A1 q → H1[q]? = H[q]?) → va_S A0 H0 H1 locs1 → W p l e R s m args below meth c H1 locs1 (cells + mc) (slots + ms) Q (F0 m (pc + 3) ls (.int r :: rest))) : W p l e R s m args below meth c H locs cells slots Q (F0 m pc ls st0) := by
  intro T hT X
  rcases hr T hT X with ⟨v, st₀, t, T', L, h0, X', hL, e1, e2, ⟨⟨r, u, hv, hp, hb⟩, hF⟩, st⟩ | ⟨q, st₀, t, T', L, E, ce, h0, X', hL, e1, e2, ⟨u, hp, hb, hF⟩, hce, hcv, hcl, st⟩
  · cases hv
    obtain ⟨k1, k2, k3⟩ := vx_keep h0 e1 hS hA hf hL hF
    obtain ⟨t2, a1, b1⟩ := kk r u t T'.heap (locs ++ L) e1.symm (by rw [← e2]; exact X'.warmed.alike) hp hb k1 k2 k3 T' rfl X'
    exact ⟨t2, st t2 a1, b1⟩
  · obtain ⟨k1, k2, k3⟩ := vx_keep h0 e1 hS hAX hf hL hF
    obtain ⟨t2, a1, b1⟩ := kx E ce q u t T'.heap (locs ++ L) e1.symm (by rw [← e2]; exact X'.warmed.alike) hp hb k1 k2 k3 (by rw [e1]; exact hce) hcv hcl T' rfl X'
    exact ⟨t2, st.trans a1, b1⟩
theorem vx_calll {S SX : Type} {post : Int64 → S → Prop} {px : SX → Prop} {B : S → State → Prop} {BX : String → SX → State → Prop} {AX : Nat → Prop} (hr : vx_Run p l e R s m args below meth c H locs cells slots mc ms (F0 m pc ls st0) rest (va_Ql post B A1 a) (vx_X px BX AX) free) (hS : va_S A0 H0 H locs) (hA : ∀ q, q < H.size → A1 q → A0 q) (hf : ∀ q, free q → A0 q) (hAX : ∀ q, q < H.size → AX q → A0 q)
    (kx : ∀ (E : String) (ce : Cell) (q9 : Addr) (u : SX) (t : State) (H1 : Heap) (locs1 : List Loc), t.heap = H1 → s.vm.Alike t.vm → px u → BX E u t → H.size ≤ H1.size → (∀ q : Nat, q < H.size → ¬ AX q → H1[q]? = H[q]?) → va_S A0 H0 H1 locs1 → H1[q9]? = some ce → ce.vm = .none → s.vm.findClass E = some ce.cls → vx_W p l e R s m args below meth c H1 locs1 (cells + mc) (slots + ms) Q (F0 m pc ls rest) q9)
    (kk : ∀ (r : Int64) (u : S) (t : State) (H1 : Heap) (locs1 : List Loc), t.heap = H1 → s.vm.Alike t.vm → post r u → B u t → H.size ≤ H1.size → (∀ q : Nat, q < H.size → ¬ A1 q → H1[q]? = H[q]?) → va_S A0 H0 H1 locs1 → W p l e R s m args below meth c H1 locs1 (cells + mc) (slots + ms) Q (F0 m (pc + 3) ls (.long r :: rest))) : W p l e R s m args below meth c H locs cells slots Q (F0 m pc ls st0) := by
  intro T hT X
  rcases hr T hT X with ⟨v, st₀, t, T', L, h0, X', hL, e1, e2, ⟨⟨r, u, hv, hp, hb⟩, hF⟩, st⟩ | ⟨q, st₀, t, T', L, E, ce, h0, X', hL, e1, e2, ⟨u, hp, hb, hF⟩, hce, hcv, hcl, st⟩
  · cases hv
    obtain ⟨k1, k2, k3⟩ := vx_keep h0 e1 hS hA hf hL hF
    obtain ⟨t2, a1, b1⟩ := kk r u t T'.heap (locs ++ L) e1.symm (by rw [← e2]; exact X'.warmed.alike) hp hb k1 k2 k3 T' rfl X'
    exact ⟨t2, st t2 a1, b1⟩
  · obtain ⟨k1, k2, k3⟩ := vx_keep h0 e1 hS hAX hf hL hF
    obtain ⟨t2, a1, b1⟩ := kx E ce q u t T'.heap (locs ++ L) e1.symm (by rw [← e2]; exact X'.warmed.alike) hp hb k1 k2 k3 (by rw [e1]; exact hce) hcv hcl T' rfl X'
    exact ⟨t2, st.trans a1, b1⟩
theorem vx_callf {S SX : Type} {post : UInt32 → S → Prop} {px : SX → Prop} {B : S → State → Prop} {BX : String → SX → State → Prop} {AX : Nat → Prop} (hr : vx_Run p l e R s m args below meth c H locs cells slots mc ms (F0 m pc ls st0) rest (va_Qf post B A1 a) (vx_X px BX AX) free) (hS : va_S A0 H0 H locs) (hA : ∀ q, q < H.size → A1 q → A0 q) (hf : ∀ q, free q → A0 q) (hAX : ∀ q, q < H.size → AX q → A0 q)
    (kx : ∀ (E : String) (ce : Cell) (q9 : Addr) (u : SX) (t : State) (H1 : Heap) (locs1 : List Loc), t.heap = H1 → s.vm.Alike t.vm → px u → BX E u t → H.size ≤ H1.size → (∀ q : Nat, q < H.size → ¬ AX q → H1[q]? = H[q]?) → va_S A0 H0 H1 locs1 → H1[q9]? = some ce → ce.vm = .none → s.vm.findClass E = some ce.cls → vx_W p l e R s m args below meth c H1 locs1 (cells + mc) (slots + ms) Q (F0 m pc ls rest) q9)
    (kk : ∀ (r : UInt32) (u : S) (t : State) (H1 : Heap) (locs1 : List Loc), t.heap = H1 → s.vm.Alike t.vm → post r u → B u t → H.size ≤ H1.size → (∀ q : Nat, q < H.size → ¬ A1 q → H1[q]? = H[q]?) → va_S A0 H0 H1 locs1 → W p l e R s m args below meth c H1 locs1 (cells + mc) (slots + ms) Q (F0 m (pc + 3) ls (.float r :: rest))) : W p l e R s m args below meth c H locs cells slots Q (F0 m pc ls st0) := by
  intro T hT X
  rcases hr T hT X with ⟨v, st₀, t, T', L, h0, X', hL, e1, e2, ⟨⟨r, u, hv, hp, hb⟩, hF⟩, st⟩ | ⟨q, st₀, t, T', L, E, ce, h0, X', hL, e1, e2, ⟨u, hp, hb, hF⟩, hce, hcv, hcl, st⟩
  · cases hv
    obtain ⟨k1, k2, k3⟩ := vx_keep h0 e1 hS hA hf hL hF
    obtain ⟨t2, a1, b1⟩ := kk r u t T'.heap (locs ++ L) e1.symm (by rw [← e2]; exact X'.warmed.alike) hp hb k1 k2 k3 T' rfl X'
    exact ⟨t2, st t2 a1, b1⟩
  · obtain ⟨k1, k2, k3⟩ := vx_keep h0 e1 hS hAX hf hL hF
    obtain ⟨t2, a1, b1⟩ := kx E ce q u t T'.heap (locs ++ L) e1.symm (by rw [← e2]; exact X'.warmed.alike) hp hb k1 k2 k3 (by rw [e1]; exact hce) hcv hcl T' rfl X'
    exact ⟨t2, st.trans a1, b1⟩
theorem vx_calld {S SX : Type} {post : UInt64 → S → Prop} {px : SX → Prop} {B : S → State → Prop} {BX : String → SX → State → Prop} {AX : Nat → Prop} (hr : vx_Run p l e R s m args below meth c H locs cells slots mc ms (F0 m pc ls st0) rest (va_Qd post B A1 a) (vx_X px BX AX) free) (hS : va_S A0 H0 H locs) (hA : ∀ q, q < H.size → A1 q → A0 q) (hf : ∀ q, free q → A0 q) (hAX : ∀ q, q < H.size → AX q → A0 q)
    (kx : ∀ (E : String) (ce : Cell) (q9 : Addr) (u : SX) (t : State) (H1 : Heap) (locs1 : List Loc), t.heap = H1 → s.vm.Alike t.vm → px u → BX E u t → H.size ≤ H1.size → (∀ q : Nat, q < H.size → ¬ AX q → H1[q]? = H[q]?) → va_S A0 H0 H1 locs1 → H1[q9]? = some ce → ce.vm = .none → s.vm.findClass E = some ce.cls → vx_W p l e R s m args below meth c H1 locs1 (cells + mc) (slots + ms) Q (F0 m pc ls rest) q9)
    (kk : ∀ (r : UInt64) (u : S) (t : State) (H1 : Heap) (locs1 : List Loc), t.heap = H1 → s.vm.Alike t.vm → post r u → B u t → H.size ≤ H1.size → (∀ q : Nat, q < H.size → ¬ A1 q → H1[q]? = H[q]?) → va_S A0 H0 H1 locs1 → W p l e R s m args below meth c H1 locs1 (cells + mc) (slots + ms) Q (F0 m (pc + 3) ls (.double r :: rest))) : W p l e R s m args below meth c H locs cells slots Q (F0 m pc ls st0) := by
  intro T hT X
  rcases hr T hT X with ⟨v, st₀, t, T', L, h0, X', hL, e1, e2, ⟨⟨r, u, hv, hp, hb⟩, hF⟩, st⟩ | ⟨q, st₀, t, T', L, E, ce, h0, X', hL, e1, e2, ⟨u, hp, hb, hF⟩, hce, hcv, hcl, st⟩
  · cases hv
    obtain ⟨k1, k2, k3⟩ := vx_keep h0 e1 hS hA hf hL hF
    obtain ⟨t2, a1, b1⟩ := kk r u t T'.heap (locs ++ L) e1.symm (by rw [← e2]; exact X'.warmed.alike) hp hb k1 k2 k3 T' rfl X'
    exact ⟨t2, st t2 a1, b1⟩
  · obtain ⟨k1, k2, k3⟩ := vx_keep h0 e1 hS hAX hf hL hF
    obtain ⟨t2, a1, b1⟩ := kx E ce q u t T'.heap (locs ++ L) e1.symm (by rw [← e2]; exact X'.warmed.alike) hp hb k1 k2 k3 (by rw [e1]; exact hce) hcv hcl T' rfl X'
    exact ⟨t2, st.trans a1, b1⟩
theorem vx_callv {S SX : Type} {post : S → Prop} {px : SX → Prop} {B : S → State → Prop} {BX : String → SX → State → Prop} {AX : Nat → Prop} (hr : vx_Run p l e R s m args below meth c H locs cells slots mc ms (F0 m pc ls st0) rest (va_Qv post B A1 a) (vx_X px BX AX) free) (hS : va_S A0 H0 H locs) (hA : ∀ q, q < H.size → A1 q → A0 q) (hf : ∀ q, free q → A0 q) (hAX : ∀ q, q < H.size → AX q → A0 q)
    (kx : ∀ (E : String) (ce : Cell) (q9 : Addr) (u : SX) (t : State) (H1 : Heap) (locs1 : List Loc), t.heap = H1 → s.vm.Alike t.vm → px u → BX E u t → H.size ≤ H1.size → (∀ q : Nat, q < H.size → ¬ AX q → H1[q]? = H[q]?) → va_S A0 H0 H1 locs1 → H1[q9]? = some ce → ce.vm = .none → s.vm.findClass E = some ce.cls → vx_W p l e R s m args below meth c H1 locs1 (cells + mc) (slots + ms) Q (F0 m pc ls rest) q9)
    (kk : ∀ (u : S) (t : State) (H1 : Heap) (locs1 : List Loc), t.heap = H1 → s.vm.Alike t.vm → post u → B u t → H.size ≤ H1.size → (∀ q : Nat, q < H.size → ¬ A1 q → H1[q]? = H[q]?) → va_S A0 H0 H1 locs1 → W p l e R s m args below meth c H1 locs1 (cells + mc) (slots + ms) Q (F0 m (pc + 3) ls (rest))) : W p l e R s m args below meth c H locs cells slots Q (F0 m pc ls st0) := by
  intro T hT X
  rcases hr T hT X with ⟨v, st₀, t, T', L, h0, X', hL, e1, e2, ⟨⟨u, hv, hp, hb⟩, hF⟩, st⟩ | ⟨q, st₀, t, T', L, E, ce, h0, X', hL, e1, e2, ⟨u, hp, hb, hF⟩, hce, hcv, hcl, st⟩
  · cases hv
    obtain ⟨k1, k2, k3⟩ := vx_keep h0 e1 hS hA hf hL hF
    obtain ⟨t2, a1, b1⟩ := kk u t T'.heap (locs ++ L) e1.symm (by rw [← e2]; exact X'.warmed.alike) hp hb k1 k2 k3 T' rfl X'
    exact ⟨t2, st t2 a1, b1⟩
  · obtain ⟨k1, k2, k3⟩ := vx_keep h0 e1 hS hAX hf hL hF
    obtain ⟨t2, a1, b1⟩ := kx E ce q u t T'.heap (locs ++ L) e1.symm (by rw [← e2]; exact X'.warmed.alike) hp hb k1 k2 k3 (by rw [e1]; exact hce) hcv hcl T' rfl X'
    exact ⟨t2, st.trans a1, b1⟩
/-- caught by the row x of this method's table; the rows ahead don't take it -/
theorem vx_catch {own name : String} {E : String} {ce : Cell} {q : Addr} (hown : s.vm.findClass own = some m.cls) (pre : List ExceptionTableEntry) (x : ExceptionTableEntry) (suf : List ExceptionTableEntry) (hsplit : c.exceptionTable.toList = pre ++ x :: suf)
    (hpass : ∀ z ∈ pre, covers z pc = false ∨ (z.catchType ≠ 0 ∧ ∃ nm : String, (Cond.classLink own z.catchType nm).before args s = true ∧ va_Nc E nm s)) (hx : covers x pc = true) (h0 : x.catchType ≠ 0)
    (hlink : (Cond.classLink own x.catchType name).before args s = true) (hcast : (Cond.castable E name).before args s = true) (hcell : H[q]? = some ce) (hv : ce.vm = .none) (hcl : s.vm.findClass E = some ce.cls)
    (kk : W p l e R s m args below meth c H locs cells slots Q (F0 m x.handlerPc ls [.ref q])) : vx_W p l e R s m args below meth c H locs cells slots Q (F0 m pc ls rest) q := by
  intro T hT X
  have hpl : e.platform.magicAccessors = ({} : Platform).magicAccessors := by rw [X.admits.platform]
  obtain ⟨c3, c4, hc3, hc4, hasg⟩ := Cond.castable_spec hcast
  cases Option.some.inj (hc3.symm.trans hcl)
  obtain ⟨c5, hc5, hcl5⟩ := Cond.classLink_spec hown hlink e.platform hpl
  cases Option.some.inj (hc4.symm.trans hc5)
  obtain ⟨vm', X', st⟩ := X.thenCaughtThrough q (g := F0 m pc ls rest) rfl (Steps.refl _) (by rw [hT]; exact hcell) (by rw [hv]; rfl) (by obtain ⟨k9, h9, -⟩ := Vm.findClass_spec hcl; exact ⟨k9, h9⟩) pre x suf hsplit
    (fun z hz => by
      rcases hpass z hz with h | ⟨hz0, nm, hl1, hn1⟩
      · exact Or.inl h
      · obtain ⟨c6, hc6, hcl6⟩ := Cond.classLink_spec hown hl1 e.platform hpl
        obtain ⟨a8, b8, h1, h2, h3⟩ := hn1
        cases Option.some.inj (h1.symm.trans hcl)
        cases Option.some.inj (h2.symm.trans hc6)
        exact Or.inr ⟨hz0, _, hcl6, h3⟩) hx (Or.inr ⟨h0, c4, hcl5, hasg⟩)
  obtain ⟨t, a1, b1⟩ := kk (T.setVm vm') hT X'
  exact ⟨t, st.trans a1, b1⟩
end Rows
section Ends
variable {p : Program} {l : Launch} {e : Env} {R : Room} {s : State} {m : MethodId} {args : Array Value} {below : List Frame} {meth : Method} {c : Code} {H : Heap} {locs : List Loc} {cells slots : Nat} {Q : State → Prop}
variable {mc ms : Nat} {free : Addr → Prop} {A0 A1 : Nat → Prop} {H0 : Heap} {a : Array Value} {ls : Array Slot} {st0 rest : List Value}
variable {Qc : Array Value → State → Outcome → State → Prop} {XC : String → State → State → Prop}
/-- what a body that may throw owes at its end -/
def vx_MQ (below : List Frame) (Qc : Array Value → State → Outcome → State → Prop) (XC : String → State → State → Prop) (a : Array Value) (s : State) (mc ms : Nat) (free : Addr → Prop) : State → Prop := fun t =>
  ∃ o, t.status = .running ∧ Ended t below o ∧ vx_Q Qc XC mc ms free a s o t
theorem vx_ret {g : JFrame} {mc ms : Nat} (k : W p l e R s m args below meth c H locs cells slots (MQ below Qc args s mc ms free) g) : W p l e R s m args below meth c H locs cells slots (vx_MQ below Qc XC args s mc ms free) g := by
  intro T hT X
  obtain ⟨t, a1, o, b1, b2, b3, b4⟩ := k T hT X
  exact ⟨t, a1, o, b1, b2, Or.inl ⟨b3, b4⟩⟩
/-- not caught here: it goes on to the caller -/
theorem vx_widen {g : JFrame} {q : Addr} {k n : Nat} (h1 : cells ≤ k) (h2 : slots ≤ n) (kk : vx_W p l e R s m args below meth c H locs k n Q g q) : vx_W p l e R s m args below meth c H locs cells slots Q g q := fun T hT X => kk T hT (stand_widen X h1 h2)
theorem vx_out {pc : Nat} {E : String} {ce : Cell} {q : Addr} {mc ms : Nat} (hout : ∀ x ∈ c.exceptionTable.toList, covers x pc = false) (hlocks : meth.locks = false) (hcell : H[q]? = some ce) (hv : ce.vm = .none) (hcl : s.vm.findClass E = some ce.cls)
    (hx : ∀ t : State, t.heap = H → s.vm.Alike t.vm → XC E s t) (hf : ∀ z ∈ locs, free z.base) (hc : cells ≤ mc) (hs : slots ≤ ms) :
    vx_W p l e R s m args below meth c H locs cells slots (vx_MQ below Qc XC args s mc ms free) (F0 m pc ls rest) q := by
  intro T hT X
  obtain ⟨st1, hrun, hend, hW, hsm⟩ := X.leaveThrown q (g := F0 m pc ls rest) rfl rfl rfl hout hlocks
  have hcell9 : (T.setFrames (.throwing q :: below)).heap[q]? = some ce := by
    show T.heap[q]? = some ce
    rw [hT]; exact hcell
  exact ⟨_, st1, .threw q, hrun, hend, Or.inr ⟨q, rfl, E, ce, locs, hx _ hT hW.alike, hcell9, hv, hcl, hW, hsm.mono hc hs, hf⟩⟩
theorem vx_frame {U : State} {k n : Nat} (h : s.sameButNew ({ U with vm := s.vm } : State) locs k n) : s.heap.size ≤ U.heap.size ∧ ∀ q : Nat, q < s.heap.size → (∀ z ∈ locs, z.base ≠ q) → U.heap[q]? = s.heap[q]? := by
  obtain ⟨-, h2, -, -, -, h6⟩ := h
  refine ⟨h2, fun q hq hz => ?_⟩
  obtain ⟨c9, e1, e2, e3, e4⟩ := h6 q _ (Array.getElem?_eq_getElem hq)
  have hs : c9.slots = (s.heap[q]).slots := Array.ext_getElem? fun i => e4 i fun hm => hz _ hm rfl
  have h9 : c9 = s.heap[q] := by
    rw [hs] at e2
    exact e2
  have e5 : U.heap[q]? = some c9 := e1
  rw [e5, h9, Array.getElem?_eq_getElem hq]
/-- the words of a throw but the four that speak of the heap -/
def vx_no (w : Cond) : Bool := decide (w ≠ .isRef (.static Bundle.tN "UNASSIGNED_STACK" Bundle.steD)) && decide (w ≠ .isRef (.static Bundle.tN "SUPPRESSED_SENTINEL" Bundle.listD)) && decide (w ≠ .laysStatic Bundle.tN "UNASSIGNED_STACK" Bundle.steD) && decide (w ≠ .laysStatic Bundle.tN "SUPPRESSED_SENTINEL" Bundle.listD)
def vx_at0 (own : String) (ic : Nat) (X : String) (names : List String) : List Cond := (Bundle.ownAtoms0 own ic X names).filter vx_no
def vx_atS (own : String) (ic : Nat) (X : String) (names : List String) : List Cond := (Bundle.ownAtoms own ic X names).filter vx_no
/-- a word that the tables alone decide, or a good one -/
def vx_ot (w : Cond) : Bool := w.onTables || goodWord w
theorem vx_ot_at {args a' : Array Value} {s U : State} {w : Cond} (hW : s.WarmedH U.vm) (hvm : s.vm = U.vm) (hg : vx_ot w = true) (h : w.before args s = true) : w.before a' U = true := by
  simp only [vx_ot, Bool.or_eq_true] at hg
  rcases hg with hg | hg
  · exact va_tabs hg hvm h
  · exact word_at hW (good_of_word hg) h
/-- a list's words: the good ones out of the method's own list, the others by premises of their own -/
theorem vx_hat {args : Array Value} {s : State} {L B : List Cond} (h1 : ∀ w ∈ L.filter goodWord, w.before args s = true) (h2 : ∀ w ∈ L.filter (fun w => !goodWord w), w ∈ B) (h3 : ∀ w ∈ B, w.before args s = true) : ∀ w ∈ L, w.before args s = true := by
  intro w hw
  by_cases g : goodWord w = true
  · exact h1 w (List.mem_filter.mpr ⟨hw, g⟩)
  · refine h3 w (h2 w (List.mem_filter.mpr ⟨hw, ?_⟩))
    show (!goodWord w) = true
    cases hgw : goodWord w
    · rfl
    · exact absurd hgw g
theorem vx_c {args : Array Value} {s : State} {w : Cond} {B : List Cond} (h : w.before args s = true) (t : ∀ w ∈ B, w.before args s = true) : ∀ w' ∈ w :: B, w'.before args s = true := fun w' h' => (List.mem_cons.mp h').elim (fun e => by rw [e]; exact h) (t w')
theorem vx_n {args : Array Value} {s : State} : ∀ w ∈ ([] : List Cond), w.before args s = true := fun _ h => nomatch h
theorem vx_own {args : Array Value} {s : State} {L : List Cond} (h1 : ∀ w ∈ L.filter vx_no, w.before args s = true)
    (hU : (Cond.isRef (.static Bundle.tN "UNASSIGNED_STACK" Bundle.steD)).before args s = true) (hN : (Cond.isRef (.static Bundle.tN "SUPPRESSED_SENTINEL" Bundle.listD)).before args s = true)
    (lU : (Cond.laysStatic Bundle.tN "UNASSIGNED_STACK" Bundle.steD).before args s = true) (lN : (Cond.laysStatic Bundle.tN "SUPPRESSED_SENTINEL" Bundle.listD).before args s = true) : ∀ w ∈ L, w.before args s = true := by
  intro w hw
  by_cases e1 : w = .isRef (.static Bundle.tN "UNASSIGNED_STACK" Bundle.steD)
  · rw [e1]; exact hU
  · by_cases e2 : w = .isRef (.static Bundle.tN "SUPPRESSED_SENTINEL" Bundle.listD)
    · rw [e2]; exact hN
    · by_cases e3 : w = .laysStatic Bundle.tN "UNASSIGNED_STACK" Bundle.steD
      · rw [e3]; exact lU
      · by_cases e4 : w = .laysStatic Bundle.tN "SUPPRESSED_SENTINEL" Bundle.listD
        · rw [e4]; exact lN
        · exact h1 w (List.mem_filter.mpr ⟨hw, by unfold vx_no; rw [decide_eq_true e1, decide_eq_true e2, decide_eq_true e3, decide_eq_true e4]; rfl⟩)
/-- where a static field lies, its class's statics cell in H -/
def vx_L (C n d : String) (A : Nat → Prop) (U : State) (H : Heap) : Prop := ∃ (c : ClassId) (k : Class) (i : Nat) (f : Field) (a : Nat) (cell : Cell), U.vm.findClass C = some c ∧ U.fieldFound? C n d = some (c, k, i, f) ∧ f.isStatic = true ∧ k.statics = some a ∧ H[a]? = some cell ∧ cell.vm.isStatics = true ∧ cell.cls = c ∧ f.slot < cell.slots.size ∧ k.staticTypes[f.slot]? = some f.type ∧ ¬ A a
theorem vx_L.moved {C n d : String} {A : Nat → Prop} {u U : State} {H : Heap} (hvm : u.vm.Alike U.vm) (h : vx_L C n d A u H) : vx_L C n d A U H := by
  obtain ⟨c, k, i, f, a, cell, h1, h2, h3, h4, h5, h6, h7, h8, h9, h10⟩ := h
  obtain ⟨k', hi', he⟩ := State.fieldFound?_setVm hvm h2
  exact ⟨c, k', i, f, a, cell, by rw [hvm.findClass]; exact h1, hi', h3, by rw [he]; exact h4, h5, h6, h7, h8, by rw [he]; exact h9, h10⟩
theorem vx_L.kept {C n d : String} {A : Nat → Prop} {U : State} {H H1 : Heap} (h : vx_L C n d A U H) (hq : ∀ a : Nat, a < H.size → ¬ A a → H1[a]? = H[a]?) : vx_L C n d A U H1 := by
  obtain ⟨c, k, i, f, a, cell, h1, h2, h3, h4, h5, h6, h7, h8, h9, h10⟩ := h
  exact ⟨c, k, i, f, a, cell, h1, h2, h3, h4, by rw [hq a (Array.getElem?_eq_some_iff.mp h5).1 h10]; exact h5, h6, h7, h8, h9, h10⟩
theorem vx_L.narrow {C n d : String} {A B : Nat → Prop} {U : State} {H : Heap} (h : vx_L C n d A U H) (hAB : ∀ q, B q → A q) : vx_L C n d B U H := by
  obtain ⟨c, k, i, f, a, cell, h1, h2, h3, h4, h5, h6, h7, h8, h9, h10⟩ := h
  exact ⟨c, k, i, f, a, cell, h1, h2, h3, h4, h5, h6, h7, h8, h9, fun z => h10 (hAB _ z)⟩
theorem vx_L.word {C n d : String} {A : Nat → Prop} {s : State} {args : Array Value} (h : vx_L C n d A s s.heap) : (Cond.laysStatic C n d).before args s = true := by
  obtain ⟨c, k, i, f, a, cell, h1, h2, h3, h4, h5, h6, h7, h8, h9, -⟩ := h
  show (Cond.laysStatic C n d).holds args s none s [] = true
  exact Cond.laysStatic_of h1 h2 h3 h4 h5 h6 h7 h8 h9
/-- .. and what it holds: null or some reference -/
def vx_Zq (C n d : String) (A : Nat → Prop) (U : State) (H : Heap) : Prop := va_Zq C n d A U H ∧ vx_L C n d A U H
theorem vx_Zq.moved {C n d : String} {A : Nat → Prop} {u U : State} {H : Heap} (hvm : u.vm.Alike U.vm) (h : vx_Zq C n d A u H) : vx_Zq C n d A U H := ⟨va_Zq.moved hvm h.1, vx_L.moved hvm h.2⟩
theorem vx_Zq.kept {C n d : String} {A : Nat → Prop} {U : State} {H H1 : Heap} (h : vx_Zq C n d A U H) (hq : ∀ a : Nat, a < H.size → ¬ A a → H1[a]? = H[a]?) : vx_Zq C n d A U H1 := ⟨va_Zq.kept h.1 hq, vx_L.kept h.2 hq⟩
theorem vx_Zq.narrow {C n d : String} {A B : Nat → Prop} {U : State} {H : Heap} (h : vx_Zq C n d A U H) (hAB : ∀ q, B q → A q) : vx_Zq C n d B U H := ⟨va_Zq.narrow h.1 hAB, vx_L.narrow h.2 hAB⟩
theorem vx_Zqof {args : Array Value} {s : State} {C n d : String} {A : Nat → Prop} (hl : (Cond.laysStatic C n d).before args s = true) (hini : (Cond.initialized C).before args s = true) (h : (Cond.isRef (.static C n d)).before args s = true) (hA : ∀ a : Nat, a < s.heap.size → ¬ A a) : vx_Zq C n d A s s.heap := by
  refine ⟨va_Zqof hl hini h hA, ?_⟩
  obtain ⟨c, k, i, f, a, cell, h1, h2, h3, h4, h5, h6, h7, h8, h9⟩ := Cond.laysStatic_spec hl
  exact ⟨c, k, i, f, a, cell, h1, h2, h3, h4, h5, h6, h7, h8, h9, hA a (Array.getElem?_eq_some_iff.mp h5).1⟩
theorem vx_isRef {C n d : String} {v : Value} {A : Nat → Prop} {s : State} {args : Array Value} (h : va_Z C n d v A s s.heap) (hv : v.isRef = true) : (Cond.isRef (.static C n d)).before args s = true := by
  obtain ⟨cf, kf, fi, f, a, cell, h1, h2, h3, h4, h5, h6, h7, -⟩ := h
  have he : (Term.static C n d).eval args s none [] s = some v := by
    simp [Term.eval, State.fieldNamed?, h1, h2, h4, h5, h6, h7]
  simp only [Cond.before, Cond.holds, Cond.value, he]
  cases v <;> simp_all [Value.isRef]
theorem vx_isRefq {C n d : String} {A : Nat → Prop} {s : State} {args : Array Value} (h : va_Zq C n d A s s.heap) : (Cond.isRef (.static C n d)).before args s = true := by
  rcases h with h | ⟨t, h⟩
  · exact vx_isRef h rfl
  · exact vx_isRef h rfl
/-- the same frame, seen from here: as if the method were called anew in this heap -/
theorem vx_rebase {T : State} (X : Stand p l e R s m args below meth c T locs cells slots) {R' : Room} (hf : R'.frames ≤ R.frames) (hl : R'.locals ≤ R.locals) (hc : cells + R'.cells ≤ R.cells) (hs : slots + R'.slots ≤ R.slots) :
    Stand p l e R' ((T.setVm s.vm).setFrames (.invoking m args :: below)) m args below meth c T [] 0 0 := by
  have htop : (T.setVm s.vm).topJava?.isSome := X.here.top
  have hF : ((T.setVm s.vm).setFrames (.invoking m args :: below)).frames = .invoking m args :: below := State.frames_setFrames _ (State.cur_lt_of_top htop)
  obtain ⟨g₀, hg0⟩ := Option.isSome_iff_exists.mp htop
  obtain ⟨r, hr⟩ := State.topJava?_eq_some.mp hg0
  have hl9 : e.platform.stackLimits (T.setVm s.vm).me = e.platform.stackLimits s.me := X.limits
  have hb9 : (T.setVm s.vm).me.stackBytes = s.me.stackBytes := X.bytes
  refine ⟨X.admits, X.cas, X.clock, hF, ?_, X.hears, X.method, X.code, X.here, X.tail, X.warmed, ?_, ?_, ?_⟩
  · have h := X.room
    have hU : ((T.setVm s.vm).setFrames (.invoking m args :: below)).localsInUse = s.localsInUse := by
      rw [State.localsInUse_invoking hF (meth := meth) (c := c) X.method X.code, State.localsInUse_invoking X.frames X.method X.code]
    simp only [State.hasRoom, Bool.and_eq_true, decide_eq_true_eq] at h ⊢
    obtain ⟨⟨⟨⟨h1, h2, h3, h4, h5, h6⟩, h7⟩, h8⟩, h9⟩ := h
    rw [X.frames, List.length_cons] at h2 h3
    have q1 := X.heapSize
    have q2 := X.used
    simp only [hF, hU, List.length_cons, State.stackLimits_setFrames, State.stackBytes_setFrames, hl9, hb9]
    refine ⟨⟨⟨⟨by omega, by omega, by omega, by omega, by omega, h6⟩, ?_⟩, ?_⟩, X.book⟩
    · show T.heap.size + R'.cells ≤ e.platform.maxCells
      omega
    · show T.slotsUsed + R'.slots ≤ e.platform.maxSlots
      omega
  · rw [State.stackLimits_setFrames]; rfl
  · rw [State.stackBytes_setFrames]; rfl
  · refine ⟨?_, Nat.le_refl _, Nat.le_refl _, ?_, ?_, fun a c9 h9 => ⟨c9, h9, rfl, rfl, fun _ _ => rfl⟩⟩
    · obtain ⟨t, ht, -⟩ := State.frames_cons hr
      show T.setVm s.vm = { ((T.setVm s.vm).setFrames (.invoking m args :: below)).setFrames (T.setVm s.vm).frames with heap := T.heap, slotsUsed := T.slotsUsed }
      rw [State.setFrames_setFrames, State.setFrames_self ht]
      rfl
    · show T.slotsUsed = T.slotsUsed + ((T.heap.toList.drop T.heap.size).map (·.slots.size)).sum
      rw [List.drop_eq_nil_of_le (Nat.le_of_eq Array.length_toList)]
      rfl
    · show ((T.heap.toList.drop T.heap.size).map (·.slots.size)).sum ≤ 0
      rw [List.drop_eq_nil_of_le (Nat.le_of_eq Array.length_toList)]
      exact Nat.le_refl _
/-- 'throw new E()': new; dup; invokespecial; athrow -/
theorem vx_throw0 {cc : ByteArray} {pc : Nat} (hexec : p.tables.exec = Jvm.exec) (hb : c.code = cc) (hl : l.stackTraces = false) {own cls : String} {names : List String} {ik ic mc ms : Nat} {A : Nat → Prop}
    (hown : s.vm.findClass own = some m.cls) (hcls : Bundle.fit cls = true) (hnames : ∀ n ∈ names, Bundle.fit n = true)
    (hk : (Cond.classLink own ik cls).before args s = true) (hini : (Cond.initialized cls).before args s = true) (hat : ∀ w ∈ vx_at0 own ic cls names, w.before args s = true)
    (hgood : ∀ w ∈ Cond.classLink own ik cls :: Cond.initialized cls :: vx_at0 own ic cls names, vx_ot w = true)
    (hU : vx_Zq Bundle.tN "UNASSIGNED_STACK" Bundle.steD A s s.heap) (hN : vx_Zq Bundle.tN "SUPPRESSED_SENTINEL" Bundle.listD A s s.heap) (hS : va_S A s.heap H locs) (hsize : ls.size = c.maxLocals)
    (d0 : decode cc pc = .ok (.new ik, 3)) (d3 : decode cc (pc + 3) = .ok (.dup, 1)) (d4 : decode cc (pc + 4) = .ok (.invokespecial ic, 3)) (d7 : decode cc (pc + 7) = .ok (.athrow, 1))
    (hout : ∀ x ∈ c.exceptionTable.toList, covers x (pc + 7) = false)
    (hRframes : names.length + 3 < R.frames) (hRlocals : (rest.map fun v => v.category).sum + (13 * (names.length + 1) + 42) ≤ R.locals) (hRcells : cells + 1 ≤ R.cells) (hRslots : slots + 6 ≤ R.slots) (hlocks : meth.locks = false)
    (hx : ∀ t : State, s.vm.Alike t.vm → H.size ≤ t.heap.size → (∀ q : Nat, q < H.size → t.heap[q]? = H[q]?) → XC cls s t)
    (hf : ∀ z ∈ locs, free z.base) (hc : cells + 1 ≤ mc) (hs : slots + 6 ≤ ms) :
    W p l e R s m args below meth c H locs cells slots (vx_MQ below Qc XC args s mc ms free) (F0 m pc ls rest) := by
  intro T hT X
  have htr : e.platform.stackTraces = false := (show e.platform.stackTraces = l.stackTraces by rw [X.admits.platform]).trans hl
  have Y := vx_rebase X (R' := { frames := R.frames, locals := R.locals, cells := 1, slots := 6 }) (Nat.le_refl _) (Nat.le_refl _) hRcells hRslots
  obtain ⟨s', hA⟩ : ∃ z, z = (T.setVm s.vm).setFrames (.invoking m args :: below) := ⟨_, rfl⟩
  rw [← hA] at Y
  have hvm : s'.vm = s.vm := by rw [hA]; rfl
  have hhp : s'.heap = H := by rw [hA]; exact hT
  have hW0 : s.WarmedH s'.vm := by rw [hvm]; exact State.WarmedH.refl s
  have hat' : ∀ w ∈ vx_at0 own ic cls names, w.before args s' = true := fun w hw => vx_ot_at hW0 hvm.symm (hgood w (List.mem_cons_of_mem _ (List.mem_cons_of_mem _ hw))) (hat w hw)
  have hk' : (Cond.classLink own ik cls).before args s' = true := vx_ot_at hW0 hvm.symm (hgood _ List.mem_cons_self) hk
  have hini' : (Cond.initialized cls).before args s' = true := vx_ot_at hW0 hvm.symm (hgood _ (List.mem_cons_of_mem _ List.mem_cons_self)) hini
  have hU' : vx_Zq Bundle.tN "UNASSIGNED_STACK" Bundle.steD A s' s'.heap := by rw [hhp]; exact vx_Zq.moved hW0.alike (hU.kept hS.2.1)
  have hN' : vx_Zq Bundle.tN "SUPPRESSED_SENTINEL" Bundle.listD A s' s'.heap := by rw [hhp]; exact vx_Zq.moved hW0.alike (hN.kept hS.2.1)
  have h : ∀ w ∈ Bundle.ownAtoms0 own ic cls names, w.before args s' = true := vx_own hat' (vx_isRefq hU'.1) (vx_isRefq hN'.1) hU'.2.word hN'.2.word
  have hown' : s'.vm.findClass own = some m.cls := by rw [hvm]; exact hown
  have hins : (Cond.instantiable cls 6).before args s' = true := h _ (by simp [Bundle.ownAtoms0])
  obtain ⟨vm₁, cX, kX, hfX, hkX, -, -, X₁, st1⟩ := Y.newCold hexec (own := own) (C := cls) (index := ik) (n := 6) hown' hk' hins hini'
    (g := F0 m pc ls rest) rfl (by rw [hb]; exact d0) (Nat.le_refl _) (Nat.le_refl _)
  generalize hT1 : (T.setVm vm₁).pushCell { cls := cX, slots := kX.instanceTypes.map defaultValue, vm := .none } = T1 at X₁ st1
  have hcat : (Value.ref T.heap.size).category = 1 := rfl
  have hcellA : T1.heap[T.heap.size]? = some (freshCell cX kX) := by rw [← hT1]; exact State.heap_pushCell_size _ _
  have d3' : decode c.code (pc + 3) = .ok (.dup, 1) := by rw [hb]; exact d3
  obtain ⟨U, hsteps, hrun, hend, hW, hsame, ce, hce, hO⟩ := X₁.ctorThrow0 hexec htr (own := own) (cls := cls) (names := names) (ic := ic) hown' hcls hnames h (fun x hx => nomatch hx) hfX hkX hcellA (by rw [hhp, hT]; exact Nat.le_refl _)
    (g := { method := m, pc := pc + 4, locals := ls, stack := .ref T.heap.size :: .ref T.heap.size :: rest, locked := none }) rfl hsize rfl rfl (rest := rest) rfl
    (by rw [hb]; exact d4) (by rw [hb]; exact d7) hout hRframes (by simp only [List.map_cons, List.sum_cons, hcat]; omega) hlocks
  obtain ⟨f1, f2⟩ := vx_frame hsame
  rw [hhp] at f1 f2
  have hWs : s.WarmedH U.vm := State.WarmedH.trans hW0 hW
  have hcl : s.vm.findClass cls = some ce.cls := by
    have h9 := hO.cls
    rw [hvm] at h9
    exact h9
  have hall : s.sameButNew ({ U with vm := s.vm } : State) locs mc ms := by
    subst hA
    obtain ⟨e1, e2⟩ := hsame
    rw [State.setFrames_setFrames] at e1
    have h2 : (T.setVm s.vm).sameButNew ({ U with vm := s.vm } : State) [] (0 + 1) (0 + 6) := ⟨e1, e2⟩
    have h3 := X.same.trans h2
    rw [List.append_nil] at h3
    exact h3.mono hc hs
  refine ⟨U, ?_, .threw T.heap.size, hrun, hend, Or.inr ⟨T.heap.size, rfl, cls, ce, locs, hx U hWs.alike f1 (fun q hq => f2 q hq (fun z hz => nomatch hz)), hce, hO.vm, hcl, hWs, hall, hf⟩⟩
  refine st1 _ ?_
  show Steps p.tables e below (T1.setTop { method := m, pc := pc + 3, locals := ls, stack := .ref T.heap.size :: rest, locked := none }) _
  jvm_step X₁.here [X₁.here.top, hexec, d3', Value.category]
  exact hsteps
/-- 'throw new E("text")': new; dup; ldc; invokespecial; athrow -/
theorem vx_throwS {cc : ByteArray} {pc : Nat} (hexec : p.tables.exec = Jvm.exec) (hb : c.code = cc) (hl : l.stackTraces = false) {own cls text : String} {names : List String} {ik is ic mc ms sa : Nat} {A : Nat → Prop}
    (hown : s.vm.findClass own = some m.cls) (hcls : Bundle.fit cls = true) (hnames : ∀ n ∈ names, Bundle.fit n = true)
    (hk : (Cond.classLink own ik cls).before args s = true) (hini : (Cond.initialized cls).before args s = true) (hstr : vk_R own is text sa s) (hat : ∀ w ∈ vx_atS own ic cls names, w.before args s = true)
    (hgood : ∀ w ∈ Cond.classLink own ik cls :: Cond.initialized cls :: vx_atS own ic cls names, vx_ot w = true)
    (hU : vx_Zq Bundle.tN "UNASSIGNED_STACK" Bundle.steD A s s.heap) (hN : vx_Zq Bundle.tN "SUPPRESSED_SENTINEL" Bundle.listD A s s.heap) (hS : va_S A s.heap H locs) (hsize : ls.size = c.maxLocals)
    (d0 : decode cc pc = .ok (.new ik, 3)) (d3 : decode cc (pc + 3) = .ok (.dup, 1)) (d4 : decode cc (pc + 4) = .ok (.ldc is, 2)) (d6 : decode cc (pc + 6) = .ok (.invokespecial ic, 3)) (d9 : decode cc (pc + 9) = .ok (.athrow, 1))
    (hout : ∀ x ∈ c.exceptionTable.toList, covers x (pc + 9) = false)
    (hRframes : names.length + 3 < R.frames) (hRlocals : (rest.map fun v => v.category).sum + (13 * (names.length + 1) + 43) ≤ R.locals) (hRcells : cells + 1 ≤ R.cells) (hRslots : slots + 6 ≤ R.slots) (hlocks : meth.locks = false)
    (hx : ∀ t : State, s.vm.Alike t.vm → H.size ≤ t.heap.size → (∀ q : Nat, q < H.size → t.heap[q]? = H[q]?) → XC cls s t)
    (hf : ∀ z ∈ locs, free z.base) (hc : cells + 1 ≤ mc) (hs : slots + 6 ≤ ms) :
    W p l e R s m args below meth c H locs cells slots (vx_MQ below Qc XC args s mc ms free) (F0 m pc ls rest) := by
  intro T hT X
  have htr : e.platform.stackTraces = false := (show e.platform.stackTraces = l.stackTraces by rw [X.admits.platform]).trans hl
  have Y := vx_rebase X (R' := { frames := R.frames, locals := R.locals, cells := 1, slots := 6 }) (Nat.le_refl _) (Nat.le_refl _) hRcells hRslots
  obtain ⟨s', hA⟩ : ∃ z, z = (T.setVm s.vm).setFrames (.invoking m args :: below) := ⟨_, rfl⟩
  rw [← hA] at Y
  have hvm : s'.vm = s.vm := by rw [hA]; rfl
  have hhp : s'.heap = H := by rw [hA]; exact hT
  have hW0 : s.WarmedH s'.vm := by rw [hvm]; exact State.WarmedH.refl s
  have hat' : ∀ w ∈ vx_atS own ic cls names, w.before args s' = true := fun w hw => vx_ot_at hW0 hvm.symm (hgood w (List.mem_cons_of_mem _ (List.mem_cons_of_mem _ hw))) (hat w hw)
  have hk' : (Cond.classLink own ik cls).before args s' = true := vx_ot_at hW0 hvm.symm (hgood _ List.mem_cons_self) hk
  have hini' : (Cond.initialized cls).before args s' = true := vx_ot_at hW0 hvm.symm (hgood _ (List.mem_cons_of_mem _ List.mem_cons_self)) hini
  have hU' : vx_Zq Bundle.tN "UNASSIGNED_STACK" Bundle.steD A s' s'.heap := by rw [hhp]; exact vx_Zq.moved hW0.alike (hU.kept hS.2.1)
  have hN' : vx_Zq Bundle.tN "SUPPRESSED_SENTINEL" Bundle.listD A s' s'.heap := by rw [hhp]; exact vx_Zq.moved hW0.alike (hN.kept hS.2.1)
  have h : ∀ w ∈ Bundle.ownAtoms own ic cls names, w.before args s' = true := vx_own hat' (vx_isRefq hU'.1) (vx_isRefq hN'.1) hU'.2.word hN'.2.word
  have hown' : s'.vm.findClass own = some m.cls := by rw [hvm]; exact hown
  have hins : (Cond.instantiable cls 6).before args s' = true := h _ (by simp [Bundle.ownAtoms])
  obtain ⟨vm₁, cX, kX, hfX, hkX, -, -, X₁, st1⟩ := Y.newCold hexec (own := own) (C := cls) (index := ik) (n := 6) hown' hk' hins hini'
    (g := F0 m pc ls rest) rfl (by rw [hb]; exact d0) (Nat.le_refl _) (Nat.le_refl _)
  generalize hT1 : (T.setVm vm₁).pushCell { cls := cX, slots := kX.instanceTypes.map defaultValue, vm := .none } = T1 at X₁ st1
  have hcat : (Value.ref T.heap.size).category = 1 := rfl
  have hcellA : T1.heap[T.heap.size]? = some (freshCell cX kX) := by rw [← hT1]; exact State.heap_pushCell_size _ _
  have d3' : decode c.code (pc + 3) = .ok (.dup, 1) := by rw [hb]; exact d3
  have d4' : decode c.code (pc + 4) = .ok (.ldc is, 2) := by rw [hb]; exact d4
  have hstr' : vk_R own is text sa s' := vk_R.warm hW0 hstr
  obtain ⟨U, hsteps, hrun, hend, hW, hsame, ce, hce, hO⟩ := X₁.ctorThrowS hexec htr (own := own) (cls := cls) (names := names) (ic := ic) hown' hcls hnames h (fun x hx => nomatch hx) hfX hkX hcellA (by rw [hhp, hT]; exact Nat.le_refl _) (msg := .ref sa) rfl
    (g := { method := m, pc := pc + 6, locals := ls, stack := .ref sa :: .ref T.heap.size :: .ref T.heap.size :: rest, locked := none }) rfl hsize rfl rfl (rest := rest) rfl
    (by rw [hb]; exact d6) (by rw [hb]; exact d9) hout hRframes (by simp only [List.map_cons, List.sum_cons, hcat]; omega) hlocks
  obtain ⟨f1, f2⟩ := vx_frame hsame
  rw [hhp] at f1 f2
  have hWs : s.WarmedH U.vm := State.WarmedH.trans hW0 hW
  have hcl : s.vm.findClass cls = some ce.cls := by
    have h9 := hO.cls
    rw [hvm] at h9
    exact h9
  have hall : s.sameButNew ({ U with vm := s.vm } : State) locs mc ms := by
    subst hA
    obtain ⟨e1, e2⟩ := hsame
    rw [State.setFrames_setFrames] at e1
    have h2 : (T.setVm s.vm).sameButNew ({ U with vm := s.vm } : State) [] (0 + 1) (0 + 6) := ⟨e1, e2⟩
    have h3 := X.same.trans h2
    rw [List.append_nil] at h3
    exact h3.mono hc hs
  refine ⟨U, ?_, .threw T.heap.size, hrun, hend, Or.inr ⟨T.heap.size, rfl, cls, ce, locs, hx U hWs.alike f1 (fun q hq => f2 q hq (fun z hz => nomatch hz)), hce, hO.vm, hcl, hWs, hall, hf⟩⟩
  refine st1 _ ?_
  show Steps p.tables e below (T1.setTop { method := m, pc := pc + 3, locals := ls, stack := .ref T.heap.size :: rest, locked := none }) _
  jvm_step X₁.here [X₁.here.top, hexec, d3', Value.category]
  exact X₁.ldcString hexec (own := own) (text := text) (index := is) (a := sa) hown' hstr'.1 hstr'.2
    (g := { method := m, pc := pc + 4, locals := ls, stack := .ref T.heap.size :: .ref T.heap.size :: rest, locked := none }) rfl d4' _ hsteps
/-- 'throw new E("text")', the text by a wide index -/
theorem vx_throwSW {cc : ByteArray} {pc : Nat} (hexec : p.tables.exec = Jvm.exec) (hb : c.code = cc) (hl : l.stackTraces = false) {own cls text : String} {names : List String} {ik is ic mc ms sa : Nat} {A : Nat → Prop}
    (hown : s.vm.findClass own = some m.cls) (hcls : Bundle.fit cls = true) (hnames : ∀ n ∈ names, Bundle.fit n = true)
    (hk : (Cond.classLink own ik cls).before args s = true) (hini : (Cond.initialized cls).before args s = true) (hstr : vk_R own is text sa s) (hat : ∀ w ∈ vx_atS own ic cls names, w.before args s = true)
    (hgood : ∀ w ∈ Cond.classLink own ik cls :: Cond.initialized cls :: vx_atS own ic cls names, vx_ot w = true)
    (hU : vx_Zq Bundle.tN "UNASSIGNED_STACK" Bundle.steD A s s.heap) (hN : vx_Zq Bundle.tN "SUPPRESSED_SENTINEL" Bundle.listD A s s.heap) (hS : va_S A s.heap H locs) (hsize : ls.size = c.maxLocals)
    (d0 : decode cc pc = .ok (.new ik, 3)) (d3 : decode cc (pc + 3) = .ok (.dup, 1)) (d4 : decode cc (pc + 4) = .ok (.ldc_w is, 3)) (d7 : decode cc (pc + 7) = .ok (.invokespecial ic, 3)) (d10 : decode cc (pc + 10) = .ok (.athrow, 1))
    (hout : ∀ x ∈ c.exceptionTable.toList, covers x (pc + 10) = false)
    (hRframes : names.length + 3 < R.frames) (hRlocals : (rest.map fun v => v.category).sum + (13 * (names.length + 1) + 43) ≤ R.locals) (hRcells : cells + 1 ≤ R.cells) (hRslots : slots + 6 ≤ R.slots) (hlocks : meth.locks = false)
    (hx : ∀ t : State, s.vm.Alike t.vm → H.size ≤ t.heap.size → (∀ q : Nat, q < H.size → t.heap[q]? = H[q]?) → XC cls s t)
    (hf : ∀ z ∈ locs, free z.base) (hc : cells + 1 ≤ mc) (hs : slots + 6 ≤ ms) :
    W p l e R s m args below meth c H locs cells slots (vx_MQ below Qc XC args s mc ms free) (F0 m pc ls rest) := by
  intro T hT X
  have htr : e.platform.stackTraces = false := (show e.platform.stackTraces = l.stackTraces by rw [X.admits.platform]).trans hl
  have Y := vx_rebase X (R' := { frames := R.frames, locals := R.locals, cells := 1, slots := 6 }) (Nat.le_refl _) (Nat.le_refl _) hRcells hRslots
  obtain ⟨s', hA⟩ : ∃ z, z = (T.setVm s.vm).setFrames (.invoking m args :: below) := ⟨_, rfl⟩
  rw [← hA] at Y
  have hvm : s'.vm = s.vm := by rw [hA]; rfl
  have hhp : s'.heap = H := by rw [hA]; exact hT
  have hW0 : s.WarmedH s'.vm := by rw [hvm]; exact State.WarmedH.refl s
  have hat' : ∀ w ∈ vx_atS own ic cls names, w.before args s' = true := fun w hw => vx_ot_at hW0 hvm.symm (hgood w (List.mem_cons_of_mem _ (List.mem_cons_of_mem _ hw))) (hat w hw)
  have hk' : (Cond.classLink own ik cls).before args s' = true := vx_ot_at hW0 hvm.symm (hgood _ List.mem_cons_self) hk
  have hini' : (Cond.initialized cls).before args s' = true := vx_ot_at hW0 hvm.symm (hgood _ (List.mem_cons_of_mem _ List.mem_cons_self)) hini
  have hU' : vx_Zq Bundle.tN "UNASSIGNED_STACK" Bundle.steD A s' s'.heap := by rw [hhp]; exact vx_Zq.moved hW0.alike (hU.kept hS.2.1)
  have hN' : vx_Zq Bundle.tN "SUPPRESSED_SENTINEL" Bundle.listD A s' s'.heap := by rw [hhp]; exact vx_Zq.moved hW0.alike (hN.kept hS.2.1)
  have h : ∀ w ∈ Bundle.ownAtoms own ic cls names, w.before args s' = true := vx_own hat' (vx_isRefq hU'.1) (vx_isRefq hN'.1) hU'.2.word hN'.2.word
  have hown' : s'.vm.findClass own = some m.cls := by rw [hvm]; exact hown
  have hins : (Cond.instantiable cls 6).before args s' = true := h _ (by simp [Bundle.ownAtoms])
  obtain ⟨vm₁, cX, kX, hfX, hkX, -, -, X₁, st1⟩ := Y.newCold hexec (own := own) (C := cls) (index := ik) (n := 6) hown' hk' hins hini'
    (g := F0 m pc ls rest) rfl (by rw [hb]; exact d0) (Nat.le_refl _) (Nat.le_refl _)
  generalize hT1 : (T.setVm vm₁).pushCell { cls := cX, slots := kX.instanceTypes.map defaultValue, vm := .none } = T1 at X₁ st1
  have hcat : (Value.ref T.heap.size).category = 1 := rfl
  have hcellA : T1.heap[T.heap.size]? = some (freshCell cX kX) := by rw [← hT1]; exact State.heap_pushCell_size _ _
  have d3' : decode c.code (pc + 3) = .ok (.dup, 1) := by rw [hb]; exact d3
  have d4' : decode c.code (pc + 4) = .ok (.ldc_w is, 3) := by rw [hb]; exact d4
  have hstr' : vk_R own is text sa s' := vk_R.warm hW0 hstr
  obtain ⟨U, hsteps, hrun, hend, hW, hsame, ce, hce, hO⟩ := X₁.ctorThrowS hexec htr (own := own) (cls := cls) (names := names) (ic := ic) hown' hcls hnames h (fun x hx => nomatch hx) hfX hkX hcellA (by rw [hhp, hT]; exact Nat.le_refl _) (msg := .ref sa) rfl
    (g := { method := m, pc := pc + 7, locals := ls, stack := .ref sa :: .ref T.heap.size :: .ref T.heap.size :: rest, locked := none }) rfl hsize rfl rfl (rest := rest) rfl
    (by rw [hb]; exact d7) (by rw [hb]; exact d10) hout hRframes (by simp only [List.map_cons, List.sum_cons, hcat]; omega) hlocks
  obtain ⟨f1, f2⟩ := vx_frame hsame
  rw [hhp] at f1 f2
  have hWs : s.WarmedH U.vm := State.WarmedH.trans hW0 hW
  have hcl : s.vm.findClass cls = some ce.cls := by
    have h9 := hO.cls
    rw [hvm] at h9
    exact h9
  have hall : s.sameButNew ({ U with vm := s.vm } : State) locs mc ms := by
    subst hA
    obtain ⟨e1, e2⟩ := hsame
    rw [State.setFrames_setFrames] at e1
    have h2 : (T.setVm s.vm).sameButNew ({ U with vm := s.vm } : State) [] (0 + 1) (0 + 6) := ⟨e1, e2⟩
    have h3 := X.same.trans h2
    rw [List.append_nil] at h3
    exact h3.mono hc hs
  refine ⟨U, ?_, .threw T.heap.size, hrun, hend, Or.inr ⟨T.heap.size, rfl, cls, ce, locs, hx U hWs.alike f1 (fun q hq => f2 q hq (fun z hz => nomatch hz)), hce, hO.vm, hcl, hWs, hall, hf⟩⟩
  refine st1 _ ?_
  show Steps p.tables e below (T1.setTop { method := m, pc := pc + 3, locals := ls, stack := .ref T.heap.size :: rest, locked := none }) _
  jvm_step X₁.here [X₁.here.top, hexec, d3', Value.category]
  exact X₁.ldcStringW hexec (own := own) (text := text) (index := is) (a := sa) hown' hstr'.1 hstr'.2
    (g := { method := m, pc := pc + 4, locals := ls, stack := .ref T.heap.size :: .ref T.heap.size :: rest, locked := none }) rfl d4' _ hsteps
end Ends
section Bodies
variable {l : Launch}
theorem vx_ofW {y : MethodName} {ws ws' : List Cond} {rm : Room} {Pc : Array Value → State → Prop} {Qc : Array Value → State → Outcome → State → Prop} {XC : String → State → State → Prop} {mc ms : Nat} {free : Addr → Prop} {cc : ByteArray} {maxL : Nat} {ret : Option FieldType}
    (hy : plainName y.cls = true) (hw : ws = Cond.code y cc maxL ret :: ws')
    (body : ∀ p e s m args below meth c s₁, BodyLoose p l y (headSpec ws rm) cc maxL ret e s m args below meth c s₁ → c.maxLocals = maxL → (∀ x ∈ c.exceptionTable.toList, False) → Pc args s →
      W p l e (headSpec ws rm).room s m args below meth c s.heap [] 0 0 (vx_MQ below Qc XC args s mc ms free) (entryFrame m args maxL)) : vx_Met l y ws rm Pc Qc XC mc ms free := by
  refine MetFree.of_bodyS (code := cc) (maxLocals := maxL) (ret := ret) hy ?_ ?_
  · intro args s m h hn
    obtain ⟨meth, c, h1, h2, h3, h4, h5, h6, -, -⟩ := Cond.code_spec hn (atoms_spec (ws := ws) h _ (by rw [hw]; exact List.mem_cons_self))
    exact ⟨meth, c, h1, h2, h3, h4, h5, h6⟩
  · intro p e s m args below meth c s₁ B hml hP _
    have hh0 : s₁.heap = s.heap := by rw [B.state]; rfl
    have ht : ∀ x ∈ c.exceptionTable.toList, False := by
      obtain ⟨meth9, c9, h1, h2, -, -, -, -, h7, -⟩ := Cond.code_spec B.named (atoms_spec (ws := ws) B.pre _ (by rw [hw]; exact List.mem_cons_self))
      cases Option.some.inj (h1.symm.trans B.method)
      cases Option.some.inj (h2.symm.trans (Stand.of_body B).code)
      intro x hx
      rw [Array.isEmpty_iff.mp h7] at hx
      cases hx
    obtain ⟨t, a1, o, b1, b2, b3⟩ := body p e s m args below meth c s₁ B hml ht hP s₁ hh0 (Stand.of_body B)
    exact ⟨t, o, a1, b1, b2, b3⟩
/-- the table of a body with handlers -/
theorem vx_table {p : Program} {x y : MethodName} {S : Spec} {cc bytes : ByteArray} {maxL maxL' : Nat} {ret ret' : Option FieldType} {e : Env} {s s₁ : State} {m : MethodId} {args : Array Value} {below : List Frame} {meth : Method} {c : Code} {hh : List (Nat × Nat × Nat × Nat)}
    (B : BodyLoose p l y S cc maxL ret e s m args below meth c s₁) (h : (Cond.codeWith y bytes maxL' ret' hh).before args s = true) : c.exceptionTable.toList = tableOf hh := by
  obtain ⟨m9, meth9, c9, hn9, h1, h2, -, -, h6, -⟩ := Cond.codeWith_spec h
  cases Option.some.inj (hn9.symm.trans B.named)
  cases Option.some.inj (h1.symm.trans B.method)
  cases Option.some.inj (h2.symm.trans (Stand.of_body B).code)
  rw [← h6, table_eq]
end Bodies
end VXA
/-! ===== END ===== -/
/-! ===== BEGIN a static call of a method with an exception table ===== -/
section VXS
variable {p : Program} {l : Launch} {e : Env} {R : Room} {s : State} {m : MethodId} {args : Array Value} {below : List Frame} {meth : Method} {c : Code} {T : State} {H : Heap} {locs : List Loc} {cells slots : Nat}
abbrev vx_CSW (R : Room) (s : State) (args : Array Value) (own : String) (index : Nat) (y : MethodName) (bytes : ByteArray) (maxL : Nat) (ret : Option FieldType) (hh : List (Nat × Nat × Nat × Nat)) (ws : List Cond) (rm : Room) (mc ms n : Nat) : Prop :=
  (rm.cells = mc ∧ rm.slots = ms ∧ rm.frames + 1 ≤ R.frames ∧ 8 + (maxL + 11) + rm.locals ≤ R.locals ∧ (∀ w ∈ ws, ∀ (a' : Array Value) (U : State), s.WarmedH U.vm → w.before a' U = true) ∧ Cond.codeWith y bytes maxL ret hh ∈ ws) ∧
  (Cond.codeWith y bytes maxL ret hh).before args s = true ∧ (Cond.initialized y.cls).before args s = true ∧ (y.cls ≠ "java/lang/invoke/MethodHandle" ∧ y.cls ≠ "java/lang/invoke/VarHandle") ∧
  (∀ sig, parseMethodDescriptor y.desc = some sig → n = sig.parameters.length) ∧ (Cond.methodLink own index y).before args s = true ∧ (Cond.static y).before args s = true
theorem vx_cwSW {own : String} {index maxL mc ms : Nat} {y : MethodName} {bytes : ByteArray} {ret : Option FieldType} {hh : List (Nat × Nat × Nat × Nat)} {Ts ws ws' : List Cond} {rm : Room} (n : Nat) (ht : ∀ w ∈ Ts, w.before args s = true) (hT : GoodIn Ts (va_wsS own index y ws)) (hw : ws = Cond.codeWith y bytes maxL ret hh :: ws') (hrc : rm.cells = mc) (hrs : rm.slots = ms)
    (hd : y.cls ≠ "java/lang/invoke/MethodHandle" ∧ y.cls ≠ "java/lang/invoke/VarHandle" ∧ (parseMethodDescriptor y.desc).map (fun d => d.parameters.length) = some n) (hR : rm.frames + 1 ≤ R.frames ∧ 8 + (maxL + 11) + rm.locals ≤ R.locals) :
    vx_CSW R s args own index y bytes maxL ret hh ws rm mc ms n := by
  have ok : ∀ w ∈ va_wsS own index y ws, w.before args s = true := fun w h => ht w (hT w h).1
  have hG : GoodIn Ts ws := fun w h => hT w (by unfold va_wsS; exact List.mem_append_right _ h)
  have hc : Cond.codeWith y bytes maxL ret hh ∈ ws := by rw [hw]; exact List.mem_cons_self
  refine ⟨⟨hrc, hrs, hR.1, hR.2, pay_in ht hG, hc⟩, ht _ (hG _ hc).1, ok _ (by simp [va_wsS]), ⟨hd.1, hd.2.1⟩, fun sig h => ?_, ok _ (by simp [va_wsS]), ok _ (by simp [va_wsS])⟩
  have h2 := hd.2.2
  rw [h] at h2
  exact (Option.some.inj h2).symm
theorem vx_callSW (X : Stand p l e R s m args below meth c T locs cells slots) (hexec : p.tables.exec = Jvm.exec) {own : String} {index : Nat} {y : MethodName} {bytes : ByteArray} {maxL : Nat} {ret : Option FieldType} {hh : List (Nat × Nat × Nat × Nat)}
    (hown : s.vm.findClass own = some m.cls) (hlink : (Cond.methodLink own index y).before args s = true) (hstat : (Cond.static y).before args s = true) (hinit : (Cond.initialized y.cls).before args s = true)
    (hcode : (Cond.codeWith y bytes maxL ret hh).before args s = true) (hy : y.cls ≠ "java/lang/invoke/MethodHandle" ∧ y.cls ≠ "java/lang/invoke/VarHandle")
    {W9 : Nat} {Pre : Pt → Array Value → Prop} {Post : Pt → Array Value → Option Value → Pt → Prop} (hK : Back l R p e below s args y 3 W9 Pre Post)
    {g : JFrame} (hg : g.method = m) (hsize : g.locals.size = c.maxLocals) {argsL rest : List Value} (hlen : ∀ sig, parseMethodDescriptor y.desc = some sig → argsL.length = sig.parameters.length)
    (hstack : g.stack = argsL.reverse ++ rest) (hW : 2 * g.monitorRoom + (rest.map fun v => v.category).sum ≤ W9) (hdg : decode c.code g.pc = .ok (.invokestatic index, 3))
    (hpre : ∀ vm₁, s.WarmedH vm₁ → Pre ⟨T.setVm vm₁, locs, cells, slots⟩ argsL.toArray) :
    ∃ (v : Option Value) (vm₁ : Vm) (B : Pt), s.WarmedH vm₁ ∧ Stand p l e R s m args below meth c B.U B.locs B.cells B.slots ∧ Post ⟨T.setVm vm₁, locs, cells, slots⟩ argsL.toArray v B ∧
      ∀ target, Steps p.tables e below (B.U.setTop { g with pc := g.pc + 3, stack := v.toList ++ rest }) target → Steps p.tables e below (T.setTop g) target := by
  obtain ⟨mk, methM, cM, hnamed, hmethM, -, -, -, -, -, -, hsigM⟩ := Cond.codeWith_spec hcode
  have hstatic : methM.isStatic = true := Cond.static_spec hnamed hmethM hstat
  obtain ⟨kP, hkP, -⟩ := className_of_methodNamed hnamed
  have hinitP : kP.init = .initialized := Cond.initialized_spec (findClass_of_methodNamed hnamed) hkP hinit
  obtain ⟨vm₁, X₁, hstep₁⟩ := X.invokestatic hexec hown hlink hnamed hmethM hstatic hkP hinitP hy (g := g) hg (argsL := argsL) (rest := rest) (hlen _ hsigM) hstack hdg
  obtain ⟨v, B, X', hpost, hsteps⟩ := hK m meth c ⟨T.setVm vm₁, locs, cells, slots⟩ { g with stack := rest } (.invokestatic index) mk argsL.toArray X₁ hg hsize hdg hW (X₁.named hnamed) (hpre vm₁ X₁.warmed)
  exact ⟨v, vm₁, B, X₁.warmed, X', hpost, fun target h => hstep₁ _ fun acts => by rw [doInvoke_state]; exact hsteps.trans h⟩
theorem vx_runSW {y : MethodName} {bytes cc : ByteArray} {maxL nL mc ms n index : Nat} {ret : Option FieldType} {hh : List (Nat × Nat × Nat × Nat)} {ws : List Cond} {rm : Room} {Pc : Array Value → State → Prop} {Qc : Array Value → State → Outcome → State → Prop} {free : Addr → Prop} {Ts : List Cond} {own : String} {As rest : List Value} {g : JFrame}
    (S : CallFix p m c cc nL s args Ts own) (hM : Met l y ws rm Pc Qc mc ms free) (cw : vx_CSW R s args own index y bytes maxL ret hh ws rm mc ms n) (hp : PreS s H Pc As)
    (hg : g.method = m) (hn : As.length = n) (hsize : g.locals.size = nL) (hstack : g.stack = As.reverse ++ rest) (hW : 2 * g.monitorRoom + (rest.map fun v => v.category).sum ≤ 8) (hdg : decode cc g.pc = .ok (.invokestatic index, 3)) (hf : cells + mc ≤ R.cells ∧ slots + ms ≤ R.slots) :
    va_Run p l e R s m args below meth c H locs cells slots mc ms g rest (Qc As.toArray) (free) := by
  obtain ⟨⟨hrc, hrs, hfr, hlo, hws, hcw⟩, hcode, hini, hy, hlen, hl, hstt⟩ := cw
  have hK : Back l R p e below s args y 3 8 (PreOf R mc ms Pc) (PostOf Qc mc ms free) := va_backW (hh := hh) (bytes := bytes) (maxL := maxL) (ret := ret) hM hp.1 hrc hrs hfr hlo hws hcw (fun a' U hW => word_at hW (Or.inl (by first | rfl | simp [Cond.onTables, Cond.keeps, Cond.steady])) hini)
  obtain ⟨hx, hb, hml, ho, -⟩ := S
  intro T hT X
  obtain ⟨v, vm₁, ⟨U', l2, c2, s2⟩, hW₁, X', ⟨g', mk, t, L, e1, e2, hq, h1, hL, h2, h3⟩, st⟩ := vx_callSW X hx (hh := hh) (bytes := bytes) (maxL := maxL) (ret := ret) ho hl hstt hini hcode hy hK hg (hsize.trans hml.symm) (argsL := As) (rest := rest) (fun sig h => hn.trans (hlen sig h)) hstack hW (by rw [hb]; exact hdg)
    (fun vm₁ hW₁ => ⟨hf.1, hf.2, hp.2 (T.setVm vm₁) hT hW₁⟩)
  dsimp only [Pt.U, Pt.locs, Pt.cells, Pt.slots] at X' e1 e2 h1 h2 h3 st
  subst h1; subst h2; subst h3
  exact ⟨v, (T.setVm vm₁).calling g' mk As.toArray, t, U', L, hT, X', hL, e1, e2, hq, st⟩
/-- not caught here, past rows that name other classes: it goes on to the caller -/
theorem vx_outP {p : Program} {l : Launch} {e : Env} {R : Room} {s : State} {m : MethodId} {args : Array Value} {below : List Frame} {meth : Method} {c : Code} {H : Heap} {locs : List Loc} {cells slots : Nat} {free : Addr → Prop} {ls : Array Slot} {rest : List Value} {Qc : Array Value → State → Outcome → State → Prop} {XC : String → State → State → Prop}
    {pc : Nat} {own E : String} {ce : Cell} {q : Addr} {mc ms : Nat} (hown : s.vm.findClass own = some m.cls) (hlocks : meth.locks = false)
    (hpass : ∀ z ∈ c.exceptionTable.toList, covers z pc = false ∨ (z.catchType ≠ 0 ∧ ∃ nm : String, (Cond.classLink own z.catchType nm).before args s = true ∧ va_Nc E nm s)) (hcell : H[q]? = some ce) (hv : ce.vm = .none) (hcl : s.vm.findClass E = some ce.cls)
    (hx : ∀ t : State, t.heap = H → s.vm.Alike t.vm → XC E s t) (hf : ∀ z ∈ locs, free z.base) (hc : cells ≤ mc) (hs : slots ≤ ms) :
    vx_W p l e R s m args below meth c H locs cells slots (vx_MQ below Qc XC args s mc ms free) (F0 m pc ls rest) q := by
  intro T hT X
  have hpl : e.platform.magicAccessors = ({} : Platform).magicAccessors := by rw [X.admits.platform]
  obtain ⟨vm', hW', X', st⟩ := X.outThrough hlocks q (g := F0 m pc ls rest) rfl rfl rfl (cell := ce) (by rw [hT]; exact hcell) (by rw [hv]; rfl)
    (by obtain ⟨k9, h9, -⟩ := Vm.findClass_spec hcl; exact ⟨k9, h9⟩) (fun z hz => by
      rcases hpass z hz with h | ⟨hz0, nm, hl1, hn1⟩
      · exact Or.inl h
      · obtain ⟨c6, hc6, hcl6⟩ := Cond.classLink_spec hown hl1 e.platform hpl
        obtain ⟨a8, b8, h1, h2, h3⟩ := hn1
        cases Option.some.inj (h1.symm.trans hcl)
        cases Option.some.inj (h2.symm.trans hc6)
        exact Or.inr ⟨hz0, _, hcl6, h3⟩)
  obtain ⟨g₀, hfr⟩ := X'.frames_eq
  have hcell9 : ((T.setVm vm').setFrames (.throwing q :: below)).heap[q]? = some ce := by
    show T.heap[q]? = some ce
    rw [hT]; exact hcell
  have hend : Ended ((T.setVm vm').setFrames (.throwing q :: below)) below (.threw q) := State.frames_setFrames _ (State.cur_lt_of_frames hfr)
  refine ⟨(T.setVm vm').setFrames (.throwing q :: below), ?_, .threw q, X'.here.running, hend, Or.inr ⟨q, rfl, E, ce, locs, hx _ hT (X'.ends _).1.alike, hcell9, hv, hcl, (X'.ends _).1, (X'.ends _).2.mono hc hs, hf⟩⟩
  rw [X.pushThrowing_eq]
  exact st
/-- a thing of a world lies in the heap -/
theorem vx_lt {D : va_G} {cl : List vw_C} {ws : va_W} {H1 : Heap} (h : va_P D cl ws H1) {k : Nat} {q : Nat × va_E} (hk : ws[k]? = some q) : q.1 < H1.size := (h k q hk).lt
end VXS
/-! ===== END ===== -/
/-! ===== BEGIN methods with a table of their own: called by a name, returning or throwing ===== -/
section VXH
/-! vx_backW, vx_callVX, vx_callSX, vx_callVW, vx_runVW, vx_runVX, vx_runSX, vx_ofWH follow the same proofs as their sisters above (Free/Laws.lean, Shelf42/LK1.lean); vx_outP calls Shelf42/NT130.lean (outThrough). -/
section
variable {l : Launch} {R : Room} {p : Program} {e : Env} {below : List Frame} {s : State} {sargs : Array Value} {y : MethodName} {len W9 : Nat}
theorem vx_backW {ws : List Cond} {rm : Room} {Pc : Array Value → State → Prop} {Qc : Array Value → State → Outcome → State → Prop} {XC : String → State → State → Prop} {mc ms : Nat} {free : Addr → Prop} {bytes : ByteArray} {maxL : Nat} {ret : Option FieldType} {hh : List (Nat × Nat × Nat × Nat)}
    (hM : vx_Met l y ws rm Pc Qc XC mc ms free) (hblind : FrameBlind Pc) (hrc : rm.cells = mc) (hrs : rm.slots = ms)
    (hframes : rm.frames + 1 ≤ R.frames) (hlocals : W9 + (maxL + 11) + rm.locals ≤ R.locals)
    (hws : ∀ w ∈ ws, ∀ a' U, s.WarmedH U.vm → w.before a' U = true) (hcode : Cond.codeWith y bytes maxL ret hh ∈ ws) (hinit : ∀ a' U, s.WarmedH U.vm → (Cond.initialized y.cls).before a' U = true) :
    vx_Back l R p e below s sargs y len W9 (PreOf R mc ms Pc) (PostOf Qc mc ms free) (vx_Post XC mc ms free) := by
  intro m meth c A g ig mk a X hg hsize hdg hW hn hp
  have h1 : (headSpec ws rm).pre.before a A.U = true := atoms_intro fun w hw => hws w hw _ _ X.warmed
  have h2 : (Cond.codeWith y bytes maxL ret hh).before a A.U = true := hws _ hcode _ _ X.warmed
  have h3 : (Cond.initialized y.cls).before a A.U = true := hinit _ _ X.warmed
  have h4 : A.cells + (headSpec ws rm).room.cells ≤ R.cells := by rw [show (headSpec ws rm).room.cells = mc from hrc]; exact hp.1
  have h5 : A.slots + (headSpec ws rm).room.slots ≤ R.slots := by rw [show (headSpec ws rm).room.slots = ms from hrs]; exact hp.2.1
  have hPc : Pc a (A.U.calling g mk a) := hblind _ _ _ _ hp.2.2
  obtain ⟨U, Ls, c0, s0⟩ := A
  dsimp only [Pt.U, Pt.locs, Pt.cells, Pt.slots] at h1 h2 h3 h4 h5 X hn hPc ⊢
  obtain ⟨m9, methY, cY, hn9, hmY, hcY, -, hlY, -⟩ := Cond.codeWith_spec h2
  cases Option.some.inj (hn9.symm.trans hn)
  obtain ⟨kY, hkY, -⟩ := className_of_methodNamed hn
  have hinitY : kY.init = .initialized := Cond.initialized_spec (findClass_of_methodNamed hn) hkY h3
  have h : At U g.method c below := by rw [hg]; exact X.here
  have hlocals9 : W9 + (maxL + 11) + (headSpec ws rm).room.locals ≤ R.locals := hlocals
  have happ : (headSpec ws rm).appliesLoose y e.platform (U.calling g mk a) = true :=
    Spec.appliesLoose_calling (g := g) h hdg hn hkY hinitY
      (X.room_calling (g := g) (R' := (headSpec ws rm).room) hsize hmY hcY hframes (by rw [hlY]; omega) h4 h5) h1
  obtain ⟨mid, hmid⟩ := h.above
  have hfr : (U.setTop g).frames = (.java g :: mid) ++ below := by rw [State.frames_setTop' g h.top, hmid]; rfl
  obtain ⟨o, s₂, hsteps, -, hend, hq⟩ := Steps.callFree hM p X.admits X.cas X.clock (acts := []) hfr happ hPc trivial
  have hq' : vx_Q Qc XC mc ms free a (U.calling g mk a) o s₂ := hq
  rw [State.frames_setTop' g h.top] at hend
  obtain ⟨g₀, hg0⟩ := Option.isSome_iff_exists.mp h.top
  obtain ⟨r, hr⟩ := State.topJava?_eq_some.mp hg0
  have hr' : (({ U with heap := s₂.heap, slotsUsed := s₂.slotsUsed } : State).setVm s₂.vm).frames = .java g₀ :: r := hr
  rcases hq' with ⟨hqc, L, hfe, hL⟩ | ⟨q, rfl, E, ce, L, hx, hce, hcv, hcl, hW₂, hsm, hL⟩
  · obtain ⟨⟨v, rfl⟩, hW₂, e2, q2, q3, q4, q5, q6⟩ := id hfe
    have e3 : s₂ = ({ (U.calling g mk a).setFrames s₂.frames with heap := s₂.heap, slotsUsed := s₂.slotsUsed } : State).setVm s₂.vm := by
      have : s₂ = ({ s₂ with vm := (U.calling g mk a).vm } : State).setVm s₂.vm := rfl
      rw [e2] at this
      exact this
    obtain ⟨c₂, i₂, len₂, hc₂, hd₂, hf₂⟩ := hend
    have hW' : U.WarmedH s₂.vm := hW₂
    have hcc : c₂ = c := by
      have h1 : s₂.code? g.method = U.code? g.method := by
        rw [State.code?_eq, State.code?_eq, hW'.alike.method?]
      exact Option.some.inj (hc₂.symm.trans (h1.trans h.code))
    subst hcc
    have hlen : len₂ = len := by rw [hdg] at hd₂; cases hd₂; rfl
    subst hlen
    have hs₂ : s₂ = (({ U with heap := s₂.heap, slotsUsed := s₂.slotsUsed } : State).setVm s₂.vm).setTop { g with pc := g.pc + len₂, stack := v.toList ++ g.stack } := by
      refine e3.trans ?_
      rw [hf₂, State.calling_eq h.top, State.setFrames_setFrames, State.setTop_of_frames _ hr', hr]
      rfl
    have hsame : U.sameButNew ({ U with heap := s₂.heap, slotsUsed := s₂.slotsUsed } : State) L mc ms := by
      refine ⟨?_, q2, q3, q4, q5, q6⟩
      obtain ⟨t, ht, -⟩ := State.frames_cons hr
      show ({ U with heap := s₂.heap, slotsUsed := s₂.slotsUsed } : State) = { U.setFrames U.frames with heap := s₂.heap, slotsUsed := s₂.slotsUsed }
      rw [State.setFrames_self ht]
    subst hg
    refine Or.inl ⟨v, ⟨(({ U with heap := s₂.heap, slotsUsed := s₂.slotsUsed } : State).setVm s₂.vm), Ls ++ L, c0 + mc, s0 + ms⟩,
      ⟨X.admits, X.cas, X.clock, X.frames, X.room, X.hears, X.method, X.code, (X.here.setHeapUsed s₂.heap s₂.slotsUsed).setVm hW'.alike, X.tail, State.WarmedH.trans X.warmed hW', X.limits, X.bytes, X.same.trans (hsame.setVm s.vm)⟩,
      ⟨g, mk, s₂, L, rfl, rfl, hqc, rfl, hL, rfl, rfl⟩, ?_⟩
    show Steps p.tables e below _ ((({ U with heap := s₂.heap, slotsUsed := s₂.slotsUsed } : State).setVm s₂.vm).setTop { g with pc := g.pc + len₂, stack := v.toList ++ g.stack })
    rw [← hs₂]
    exact hsteps
  · obtain ⟨e2, q2, q3, q4, q5, q6⟩ := id hsm
    have e3 : s₂ = ({ (U.calling g mk a).setFrames s₂.frames with heap := s₂.heap, slotsUsed := s₂.slotsUsed } : State).setVm s₂.vm := by
      have : s₂ = ({ s₂ with vm := (U.calling g mk a).vm } : State).setVm s₂.vm := rfl
      rw [e2] at this
      exact this
    have hf₂ : s₂.frames = .throwing q :: .java g :: U.frames.tail := hend
    have hW' : U.WarmedH s₂.vm := hW₂
    have hs₂ : s₂ = ((({ U with heap := s₂.heap, slotsUsed := s₂.slotsUsed } : State).setVm s₂.vm).setTop g).pushFrame (.throwing q) := by
      refine e3.trans ?_
      rw [hf₂, State.calling_eq h.top, State.setFrames_setFrames, State.pushFrame, State.frames_setTop _ hr', State.setTop_of_frames _ hr', State.setFrames_setFrames, hr]
      rfl
    have hsame : U.sameButNew ({ U with heap := s₂.heap, slotsUsed := s₂.slotsUsed } : State) L mc ms := by
      refine ⟨?_, q2, q3, q4, q5, q6⟩
      obtain ⟨t, ht, -⟩ := State.frames_cons hr
      show ({ U with heap := s₂.heap, slotsUsed := s₂.slotsUsed } : State) = { U.setFrames U.frames with heap := s₂.heap, slotsUsed := s₂.slotsUsed }
      rw [State.setFrames_self ht]
    subst hg
    refine Or.inr ⟨q, ⟨(({ U with heap := s₂.heap, slotsUsed := s₂.slotsUsed } : State).setVm s₂.vm), Ls ++ L, c0 + mc, s0 + ms⟩,
      ⟨X.admits, X.cas, X.clock, X.frames, X.room, X.hears, X.method, X.code, (X.here.setHeapUsed s₂.heap s₂.slotsUsed).setVm hW'.alike, X.tail, State.WarmedH.trans X.warmed hW', X.limits, X.bytes, X.same.trans (hsame.setVm s.vm)⟩,
      ⟨g, mk, s₂, L, E, ce, rfl, rfl, hx, hce, hcv, hcl, rfl, hL, rfl, rfl⟩, ?_⟩
    show Steps p.tables e below _ (((({ U with heap := s₂.heap, slotsUsed := s₂.slotsUsed } : State).setVm s₂.vm).setTop g).pushFrame (.throwing q))
    rw [← hs₂]
    exact hsteps
end
variable {p : Program} {l : Launch} {e : Env} {R : Room} {s : State} {m : MethodId} {args : Array Value} {below : List Frame} {meth : Method} {c : Code} {T : State} {H : Heap} {locs : List Loc} {cells slots : Nat}
theorem vx_callVX (X : Stand p l e R s m args below meth c T locs cells slots) (hexec : p.tables.exec = Jvm.exec) {own C : String} {index : Nat} {y : MethodName} {bytes : ByteArray} {maxL : Nat} {ret : Option FieldType} {hh : List (Nat × Nat × Nat × Nat)}
    (hown : s.vm.findClass own = some m.cls) (hlink : (Cond.methodLink own index y).before args s = true) (hinst : (Cond.instanceMethod y).before args s = true) (hsel : (Cond.selects C y y).before args s = true)
    (hcode : (Cond.codeWith y bytes maxL ret hh).before args s = true) (hy : y.cls ≠ "java/lang/invoke/MethodHandle" ∧ y.cls ≠ "java/lang/invoke/VarHandle")
    {W9 : Nat} {Pre : Pt → Array Value → Prop} {Post : Pt → Array Value → Option Value → Pt → Prop} {PostX : Pt → Array Value → Addr → Pt → Prop} (hK : vx_Back l R p e below s args y 3 W9 Pre Post PostX)
    {b : Addr} {cellB : Cell} (hcell : T.heap[b]? = some cellB) (hobj : cellB.vm.isStatics = false) (hcls : s.vm.findClass C = some cellB.cls)
    {g : JFrame} (hg : g.method = m) (hsize : g.locals.size = c.maxLocals) {argsL rest : List Value} (hlen : ∀ sig, parseMethodDescriptor y.desc = some sig → argsL.length = sig.parameters.length)
    (hstack : g.stack = argsL.reverse ++ .ref b :: rest) (hW : 2 * g.monitorRoom + (rest.map fun v => v.category).sum ≤ W9) (hdg : decode c.code g.pc = .ok (.invokevirtual index, 3))
    (hpre : ∀ vm₁, s.WarmedH vm₁ → Pre ⟨T.setVm vm₁, locs, cells, slots⟩ (Value.ref b :: argsL).toArray) :
    (∃ (v : Option Value) (vm₁ : Vm) (B : Pt), s.WarmedH vm₁ ∧ Stand p l e R s m args below meth c B.U B.locs B.cells B.slots ∧ Post ⟨T.setVm vm₁, locs, cells, slots⟩ (Value.ref b :: argsL).toArray v B ∧
      ∀ target, Steps p.tables e below (B.U.setTop { g with pc := g.pc + 3, stack := v.toList ++ rest }) target → Steps p.tables e below (T.setTop g) target) ∨
    (∃ (q : Addr) (vm₁ : Vm) (B : Pt), s.WarmedH vm₁ ∧ Stand p l e R s m args below meth c B.U B.locs B.cells B.slots ∧ PostX ⟨T.setVm vm₁, locs, cells, slots⟩ (Value.ref b :: argsL).toArray q B ∧
      Steps p.tables e below (T.setTop g) ((B.U.setTop { g with stack := rest }).pushFrame (.throwing q))) := by
  obtain ⟨mk, methM, hnamed, hmethM, hstM, habM⟩ := Cond.instanceMethod_spec hinst
  obtain ⟨m8, methM', cM, hn8, hmethM', -, -, -, -, -, -, hsigM⟩ := Cond.codeWith_spec hcode
  cases Option.some.inj (hn8.symm.trans hnamed)
  cases hmethM.symm.trans hmethM'
  obtain ⟨c2, r2, m2, q1, q2, q3, q4, kP, hkP, hkPi⟩ := Cond.selects_spec hsel
  cases hcls.symm.trans q1
  cases (State.methodFound?_of_named hnamed hy).symm.trans q2
  cases hnamed.symm.trans q3
  have hselP : selectMethod e.platform s.vm cellB.cls mk = .method mk := by rw [Launch.admits_selectMethod X.admits]; exact q4
  obtain ⟨vm₁, X₁, hstep₁⟩ := X.invokevirtual hexec hown hlink hnamed hmethM hstM hkP hkPi hy (a := b) (cell := cellB) hcell
    (fun z h => by rw [h] at hobj; cases hobj) hselP hmethM habM hkP hkPi (g := g) hg (argsL := argsL) (rest := rest) (hlen _ hsigM) hstack hdg
  rcases hK m meth c ⟨T.setVm vm₁, locs, cells, slots⟩ { g with stack := rest } (.invokevirtual index) mk (Value.ref b :: argsL).toArray X₁ hg hsize hdg hW (X₁.named hnamed) (hpre vm₁ X₁.warmed) with ⟨v, B, X', hpost, hsteps⟩ | ⟨q, B, X', hpost, hsteps⟩
  · exact Or.inl ⟨v, vm₁, B, X₁.warmed, X', hpost, fun target h => hstep₁ _ fun acts => by rw [doInvoke_state]; exact hsteps.trans h⟩
  · exact Or.inr ⟨q, vm₁, B, X₁.warmed, X', hpost, hstep₁ _ fun acts => by rw [doInvoke_state]; exact hsteps⟩
theorem vx_callSX (X : Stand p l e R s m args below meth c T locs cells slots) (hexec : p.tables.exec = Jvm.exec) {own : String} {index : Nat} {y : MethodName} {bytes : ByteArray} {maxL : Nat} {ret : Option FieldType} {hh : List (Nat × Nat × Nat × Nat)}
    (hown : s.vm.findClass own = some m.cls) (hlink : (Cond.methodLink own index y).before args s = true) (hstat : (Cond.static y).before args s = true) (hinit : (Cond.initialized y.cls).before args s = true)
    (hcode : (Cond.codeWith y bytes maxL ret hh).before args s = true) (hy : y.cls ≠ "java/lang/invoke/MethodHandle" ∧ y.cls ≠ "java/lang/invoke/VarHandle")
    {W9 : Nat} {Pre : Pt → Array Value → Prop} {Post : Pt → Array Value → Option Value → Pt → Prop} {PostX : Pt → Array Value → Addr → Pt → Prop} (hK : vx_Back l R p e below s args y 3 W9 Pre Post PostX)
    {g : JFrame} (hg : g.method = m) (hsize : g.locals.size = c.maxLocals) {argsL rest : List Value} (hlen : ∀ sig, parseMethodDescriptor y.desc = some sig → argsL.length = sig.parameters.length)
    (hstack : g.stack = argsL.reverse ++ rest) (hW : 2 * g.monitorRoom + (rest.map fun v => v.category).sum ≤ W9) (hdg : decode c.code g.pc = .ok (.invokestatic index, 3))
    (hpre : ∀ vm₁, s.WarmedH vm₁ → Pre ⟨T.setVm vm₁, locs, cells, slots⟩ argsL.toArray) :
    (∃ (v : Option Value) (vm₁ : Vm) (B : Pt), s.WarmedH vm₁ ∧ Stand p l e R s m args below meth c B.U B.locs B.cells B.slots ∧ Post ⟨T.setVm vm₁, locs, cells, slots⟩ argsL.toArray v B ∧
      ∀ target, Steps p.tables e below (B.U.setTop { g with pc := g.pc + 3, stack := v.toList ++ rest }) target → Steps p.tables e below (T.setTop g) target) ∨
    (∃ (q : Addr) (vm₁ : Vm) (B : Pt), s.WarmedH vm₁ ∧ Stand p l e R s m args below meth c B.U B.locs B.cells B.slots ∧ PostX ⟨T.setVm vm₁, locs, cells, slots⟩ argsL.toArray q B ∧
      Steps p.tables e below (T.setTop g) ((B.U.setTop { g with stack := rest }).pushFrame (.throwing q))) := by
  obtain ⟨mk, methM, cM, hnamed, hmethM, -, -, -, -, -, -, hsigM⟩ := Cond.codeWith_spec hcode
  have hstatic : methM.isStatic = true := Cond.static_spec hnamed hmethM hstat
  obtain ⟨kP, hkP, -⟩ := className_of_methodNamed hnamed
  have hinitP : kP.init = .initialized := Cond.initialized_spec (findClass_of_methodNamed hnamed) hkP hinit
  obtain ⟨vm₁, X₁, hstep₁⟩ := X.invokestatic hexec hown hlink hnamed hmethM hstatic hkP hinitP hy (g := g) hg (argsL := argsL) (rest := rest) (hlen _ hsigM) hstack hdg
  rcases hK m meth c ⟨T.setVm vm₁, locs, cells, slots⟩ { g with stack := rest } (.invokestatic index) mk argsL.toArray X₁ hg hsize hdg hW (X₁.named hnamed) (hpre vm₁ X₁.warmed) with ⟨v, B, X', hpost, hsteps⟩ | ⟨q, B, X', hpost, hsteps⟩
  · exact Or.inl ⟨v, vm₁, B, X₁.warmed, X', hpost, fun target h => hstep₁ _ fun acts => by rw [doInvoke_state]; exact hsteps.trans h⟩
  · exact Or.inr ⟨q, vm₁, B, X₁.warmed, X', hpost, hstep₁ _ fun acts => by rw [doInvoke_state]; exact hsteps⟩
theorem vx_callVW (X : Stand p l e R s m args below meth c T locs cells slots) (hexec : p.tables.exec = Jvm.exec) {own C : String} {index : Nat} {y : MethodName} {bytes : ByteArray} {maxL : Nat} {ret : Option FieldType} {hh : List (Nat × Nat × Nat × Nat)}
    (hown : s.vm.findClass own = some m.cls) (hlink : (Cond.methodLink own index y).before args s = true) (hinst : (Cond.instanceMethod y).before args s = true) (hsel : (Cond.selects C y y).before args s = true)
    (hcode : (Cond.codeWith y bytes maxL ret hh).before args s = true) (hy : y.cls ≠ "java/lang/invoke/MethodHandle" ∧ y.cls ≠ "java/lang/invoke/VarHandle")
    {W9 : Nat} {Pre : Pt → Array Value → Prop} {Post : Pt → Array Value → Option Value → Pt → Prop} (hK : Back l R p e below s args y 3 W9 Pre Post)
    {b : Addr} {cellB : Cell} (hcell : T.heap[b]? = some cellB) (hobj : cellB.vm.isStatics = false) (hcls : s.vm.findClass C = some cellB.cls)
    {g : JFrame} (hg : g.method = m) (hsize : g.locals.size = c.maxLocals) {argsL rest : List Value} (hlen : ∀ sig, parseMethodDescriptor y.desc = some sig → argsL.length = sig.parameters.length)
    (hstack : g.stack = argsL.reverse ++ .ref b :: rest) (hW : 2 * g.monitorRoom + (rest.map fun v => v.category).sum ≤ W9) (hdg : decode c.code g.pc = .ok (.invokevirtual index, 3))
    (hpre : ∀ vm₁, s.WarmedH vm₁ → Pre ⟨T.setVm vm₁, locs, cells, slots⟩ (Value.ref b :: argsL).toArray) :
    ∃ (v : Option Value) (vm₁ : Vm) (B : Pt), s.WarmedH vm₁ ∧ Stand p l e R s m args below meth c B.U B.locs B.cells B.slots ∧ Post ⟨T.setVm vm₁, locs, cells, slots⟩ (Value.ref b :: argsL).toArray v B ∧
      ∀ target, Steps p.tables e below (B.U.setTop { g with pc := g.pc + 3, stack := v.toList ++ rest }) target → Steps p.tables e below (T.setTop g) target := by
  obtain ⟨mk, methM, hnamed, hmethM, hstM, habM⟩ := Cond.instanceMethod_spec hinst
  obtain ⟨m8, methM', cM, hn8, hmethM', -, -, -, -, -, -, hsigM⟩ := Cond.codeWith_spec hcode
  cases Option.some.inj (hn8.symm.trans hnamed)
  cases hmethM.symm.trans hmethM'
  obtain ⟨c2, r2, m2, q1, q2, q3, q4, kP, hkP, hkPi⟩ := Cond.selects_spec hsel
  cases hcls.symm.trans q1
  cases (State.methodFound?_of_named hnamed hy).symm.trans q2
  cases hnamed.symm.trans q3
  have hselP : selectMethod e.platform s.vm cellB.cls mk = .method mk := by rw [Launch.admits_selectMethod X.admits]; exact q4
  obtain ⟨vm₁, X₁, hstep₁⟩ := X.invokevirtual hexec hown hlink hnamed hmethM hstM hkP hkPi hy (a := b) (cell := cellB) hcell
    (fun z h => by rw [h] at hobj; cases hobj) hselP hmethM habM hkP hkPi (g := g) hg (argsL := argsL) (rest := rest) (hlen _ hsigM) hstack hdg
  obtain ⟨v, B, X', hpost, hsteps⟩ := hK m meth c ⟨T.setVm vm₁, locs, cells, slots⟩ { g with stack := rest } (.invokevirtual index) mk (Value.ref b :: argsL).toArray X₁ hg hsize hdg hW (X₁.named hnamed) (hpre vm₁ X₁.warmed)
  exact ⟨v, vm₁, B, X₁.warmed, X', hpost, fun target h => hstep₁ _ fun acts => by rw [doInvoke_state]; exact hsteps.trans h⟩
abbrev vx_CVW (R : Room) (s : State) (args : Array Value) (own C : String) (index : Nat) (y : MethodName) (bytes : ByteArray) (maxL : Nat) (ret : Option FieldType) (hh : List (Nat × Nat × Nat × Nat)) (ws : List Cond) (rm : Room) (mc ms n : Nat) : Prop :=
  (rm.cells = mc ∧ rm.slots = ms ∧ rm.frames + 1 ≤ R.frames ∧ 8 + (maxL + 11) + rm.locals ≤ R.locals ∧ (∀ w ∈ ws, ∀ (a' : Array Value) (U : State), s.WarmedH U.vm → w.before a' U = true) ∧ Cond.codeWith y bytes maxL ret hh ∈ ws) ∧
  (Cond.codeWith y bytes maxL ret hh).before args s = true ∧ (Cond.initialized y.cls).before args s = true ∧ (y.cls ≠ "java/lang/invoke/MethodHandle" ∧ y.cls ≠ "java/lang/invoke/VarHandle") ∧
  (∀ sig, parseMethodDescriptor y.desc = some sig → n = sig.parameters.length) ∧ (Cond.methodLink own index y).before args s = true ∧ (Cond.instanceMethod y).before args s = true ∧ (Cond.selects C y y).before args s = true
theorem vx_cwVW {own C : String} {index maxL mc ms : Nat} {y : MethodName} {bytes : ByteArray} {ret : Option FieldType} {hh : List (Nat × Nat × Nat × Nat)} {Ts ws ws' : List Cond} {rm : Room} (n : Nat) (ht : ∀ w ∈ Ts, w.before args s = true) (hT : GoodIn Ts (wsV own index C y ws)) (hw : ws = Cond.codeWith y bytes maxL ret hh :: ws') (hrc : rm.cells = mc) (hrs : rm.slots = ms)
    (hd : y.cls = C ∧ y.cls ≠ "java/lang/invoke/MethodHandle" ∧ y.cls ≠ "java/lang/invoke/VarHandle" ∧ (parseMethodDescriptor y.desc).map (fun d => d.parameters.length) = some n) (hR : rm.frames + 1 ≤ R.frames ∧ 8 + (maxL + 11) + rm.locals ≤ R.locals) :
    vx_CVW R s args own C index y bytes maxL ret hh ws rm mc ms n := by
  obtain ⟨hC, hd⟩ := hd
  subst hC
  have ok : ∀ w ∈ wsV own index y.cls y ws, w.before args s = true := fun w h => ht w (hT w h).1
  have hG : GoodIn Ts ws := fun w h => hT w (by unfold wsV; exact List.mem_append_right _ h)
  have hc : Cond.codeWith y bytes maxL ret hh ∈ ws := by rw [hw]; exact List.mem_cons_self
  refine ⟨⟨hrc, hrs, hR.1, hR.2, pay_in ht hG, hc⟩, ht _ (hG _ hc).1, ok _ (by simp [wsV]), ⟨hd.1, hd.2.1⟩, fun sig h => ?_, ok _ (by simp [wsV]), ok _ (by simp [wsV]), ok _ (by simp [wsV])⟩
  have h2 := hd.2.2
  rw [h] at h2
  exact (Option.some.inj h2).symm
theorem vx_runVW {y : MethodName} {bytes cc : ByteArray} {maxL nL mc ms n index : Nat} {ret : Option FieldType} {hh : List (Nat × Nat × Nat × Nat)} {ws : List Cond} {rm : Room} {Pc : Array Value → State → Prop} {Qc : Array Value → State → Outcome → State → Prop} {free : Addr → Prop} {Ts : List Cond} {own C : String} {b : Addr} {As rest : List Value} {g : JFrame}
    (S : CallFix p m c cc nL s args Ts own) (hM : Met l y ws rm Pc Qc mc ms free) (cw : vx_CVW R s args own C index y bytes maxL ret hh ws rm mc ms n) (hp : PreV s H C b Pc As)
    (hg : g.method = m) (hn : As.length = n) (hsize : g.locals.size = nL) (hstack : g.stack = As.reverse ++ .ref b :: rest) (hW : 2 * g.monitorRoom + (rest.map fun v => v.category).sum ≤ 8) (hdg : decode cc g.pc = .ok (.invokevirtual index, 3)) (hf : cells + mc ≤ R.cells ∧ slots + ms ≤ R.slots) :
    va_Run p l e R s m args below meth c H locs cells slots mc ms g rest (Qc (Value.ref b :: As).toArray) free := by
  obtain ⟨⟨hrc, hrs, hfr, hlo, hws, hcw⟩, hcode, hini, hy, hlen, hl, hin, hse⟩ := cw
  have hK : Back l R p e below s args y 3 8 (PreOf R mc ms Pc) (PostOf Qc mc ms free) := va_backW (hh := hh) (bytes := bytes) (maxL := maxL) (ret := ret) hM hp.1 hrc hrs hfr hlo hws hcw (fun a' U hW => word_at hW (Or.inl (by first | rfl | simp [Cond.onTables, Cond.keeps, Cond.steady])) hini)
  obtain ⟨hx, hb, hml, ho, -⟩ := S
  obtain ⟨-, ⟨cellB, hcB, hoB, hclB⟩, hPc⟩ := hp
  intro T hT X
  obtain ⟨v, vm₁, ⟨U', l2, c2, s2⟩, hW₁, X', ⟨g', mk, t, L, e1, e2, hq, h1, hL, h2, h3⟩, st⟩ := vx_callVW X hx (C := C) (hh := hh) (bytes := bytes) (maxL := maxL) (ret := ret) ho hl hin hse hcode hy hK (by rw [hT]; exact hcB) hoB hclB hg (hsize.trans hml.symm) (argsL := As) (rest := rest) (fun sig h => hn.trans (hlen sig h)) hstack hW (by rw [hb]; exact hdg)
    (fun vm₁ hW₁ => ⟨hf.1, hf.2, hPc (T.setVm vm₁) hT hW₁⟩)
  dsimp only [Pt.U, Pt.locs, Pt.cells, Pt.slots] at X' e1 e2 h1 h2 h3 st
  subst h1; subst h2; subst h3
  exact ⟨v, (T.setVm vm₁).calling g' mk (Value.ref b :: As).toArray, t, U', L, hT, X', hL, e1, e2, hq, st⟩
section
variable {y : MethodName} {bytes cc : ByteArray} {maxL nL mc ms n index : Nat} {ret : Option FieldType} {ws : List Cond} {rm : Room} {Pc : Array Value → State → Prop} {Qc : Array Value → State → Outcome → State → Prop} {XC : String → State → State → Prop} {free : Addr → Prop} {Ts : List Cond} {own C : String} {b : Addr} {As rest : List Value} {g : JFrame}
theorem vx_runVX {hh : List (Nat × Nat × Nat × Nat)} (S : CallFix p m c cc nL s args Ts own) (hM : vx_Met l y ws rm Pc Qc XC mc ms free) (cw : vx_CVW R s args own C index y bytes maxL ret hh ws rm mc ms n) (hp : PreV s H C b Pc As)
    (hg : g.method = m) (hn : As.length = n) (hsize : g.locals.size = nL) (hstack : g.stack = As.reverse ++ .ref b :: rest) (hW : 2 * g.monitorRoom + (rest.map fun v => v.category).sum ≤ 8) (hdg : decode cc g.pc = .ok (.invokevirtual index, 3)) (hf : cells + mc ≤ R.cells ∧ slots + ms ≤ R.slots) :
    vx_Run p l e R s m args below meth c H locs cells slots mc ms g rest (Qc (Value.ref b :: As).toArray) XC free := by
  obtain ⟨⟨hrc, hrs, hfr, hlo, hws, hcw⟩, hcode, hini, hy, hlen, hl, hin, hse⟩ := cw
  have hK : vx_Back l R p e below s args y 3 8 (PreOf R mc ms Pc) (PostOf Qc mc ms free) (vx_Post XC mc ms free) := vx_backW (hh := hh) (bytes := bytes) (maxL := maxL) (ret := ret) hM hp.1 hrc hrs hfr hlo hws hcw (fun a' U hW => word_at hW (Or.inl (by first | rfl | simp [Cond.onTables, Cond.keeps, Cond.steady])) hini)
  obtain ⟨hx, hb, hml, ho, -⟩ := S
  obtain ⟨-, ⟨cellB, hcB, hoB, hclB⟩, hPc⟩ := hp
  intro T hT X
  rcases vx_callVX X hx (C := C) (hh := hh) (bytes := bytes) (maxL := maxL) (ret := ret) ho hl hin hse hcode hy hK (by rw [hT]; exact hcB) hoB hclB hg (hsize.trans hml.symm) (argsL := As) (rest := rest) (fun sig h => hn.trans (hlen sig h)) hstack hW (by rw [hb]; exact hdg)
    (fun vm₁ hW₁ => ⟨hf.1, hf.2, hPc (T.setVm vm₁) hT hW₁⟩) with ⟨v, vm₁, ⟨U', l2, c2, s2⟩, hW₁, X', ⟨g', mk, t, L, e1, e2, hq, h1, hL, h2, h3⟩, st⟩ | ⟨q, vm₁, ⟨U', l2, c2, s2⟩, hW₁, X', ⟨g', mk, t, L, E, ce, e1, e2, hq, hce, hcv, hcl, h1, hL, h2, h3⟩, st⟩
  · dsimp only [Pt.U, Pt.locs, Pt.cells, Pt.slots] at X' e1 e2 h1 h2 h3 st
    subst h1; subst h2; subst h3
    exact Or.inl ⟨v, (T.setVm vm₁).calling g' mk (Value.ref b :: As).toArray, t, U', L, hT, X', hL, e1, e2, hq, st⟩
  · dsimp only [Pt.U, Pt.locs, Pt.cells, Pt.slots] at X' e1 e2 h1 h2 h3 st hcl
    subst h1; subst h2; subst h3
    exact Or.inr ⟨q, (T.setVm vm₁).calling g' mk (Value.ref b :: As).toArray, t, U', L, E, ce, hT, X', hL, e1, e2, hq, hce, hcv, vx_cls hW₁ hcl, st⟩
theorem vx_runSX {hh : List (Nat × Nat × Nat × Nat)} (S : CallFix p m c cc nL s args Ts own) (hM : vx_Met l y ws rm Pc Qc XC mc ms free) (cw : vx_CSW R s args own index y bytes maxL ret hh ws rm mc ms n) (hp : PreS s H Pc As)
    (hg : g.method = m) (hn : As.length = n) (hsize : g.locals.size = nL) (hstack : g.stack = As.reverse ++ rest) (hW : 2 * g.monitorRoom + (rest.map fun v => v.category).sum ≤ 8) (hdg : decode cc g.pc = .ok (.invokestatic index, 3)) (hf : cells + mc ≤ R.cells ∧ slots + ms ≤ R.slots) :
    vx_Run p l e R s m args below meth c H locs cells slots mc ms g rest (Qc As.toArray) XC free := by
  obtain ⟨⟨hrc, hrs, hfr, hlo, hws, hcw⟩, hcode, hini, hy, hlen, hl, hstt⟩ := cw
  have hK : vx_Back l R p e below s args y 3 8 (PreOf R mc ms Pc) (PostOf Qc mc ms free) (vx_Post XC mc ms free) := vx_backW (hh := hh) (bytes := bytes) (maxL := maxL) (ret := ret) hM hp.1 hrc hrs hfr hlo hws hcw (fun a' U hW => word_at hW (Or.inl (by first | rfl | simp [Cond.onTables, Cond.keeps, Cond.steady])) hini)
  obtain ⟨hx, hb, hml, ho, -⟩ := S
  intro T hT X
  rcases vx_callSX X hx (hh := hh) (bytes := bytes) (maxL := maxL) (ret := ret) ho hl hstt hini hcode hy hK hg (hsize.trans hml.symm) (argsL := As) (rest := rest) (fun sig h => hn.trans (hlen sig h)) hstack hW (by rw [hb]; exact hdg)
    (fun vm₁ hW₁ => ⟨hf.1, hf.2, hp.2 (T.setVm vm₁) hT hW₁⟩) with ⟨v, vm₁, ⟨U', l2, c2, s2⟩, hW₁, X', ⟨g', mk, t, L, e1, e2, hq, h1, hL, h2, h3⟩, st⟩ | ⟨q, vm₁, ⟨U', l2, c2, s2⟩, hW₁, X', ⟨g', mk, t, L, E, ce, e1, e2, hq, hce, hcv, hcl, h1, hL, h2, h3⟩, st⟩
  · dsimp only [Pt.U, Pt.locs, Pt.cells, Pt.slots] at X' e1 e2 h1 h2 h3 st
    subst h1; subst h2; subst h3
    exact Or.inl ⟨v, (T.setVm vm₁).calling g' mk As.toArray, t, U', L, hT, X', hL, e1, e2, hq, st⟩
  · dsimp only [Pt.U, Pt.locs, Pt.cells, Pt.slots] at X' e1 e2 h1 h2 h3 st hcl
    subst h1; subst h2; subst h3
    exact Or.inr ⟨q, (T.setVm vm₁).calling g' mk As.toArray, t, U', L, E, ce, hT, X', hL, e1, e2, hq, hce, hcv, vx_cls hW₁ hcl, st⟩
end
end VXH
theorem vx_ofWH {l : Launch} {y : MethodName} {ws ws' : List Cond} {rm : Room} {Pc : Array Value → State → Prop} {Qc : Array Value → State → Outcome → State → Prop} {XC : String → State → State → Prop} {mc ms : Nat} {free : Addr → Prop} {cc : ByteArray} {maxL : Nat} {ret : Option FieldType} {hh : List (Nat × Nat × Nat × Nat)}
    (hy : plainName y.cls = true) (hw : ws = Cond.codeWith y cc maxL ret hh :: ws')
    (body : ∀ p e s m args below meth c s₁, BodyLoose p l y (headSpec ws rm) cc maxL ret e s m args below meth c s₁ → c.maxLocals = maxL → Pc args s →
      W p l e (headSpec ws rm).room s m args below meth c s.heap [] 0 0 (vx_MQ below Qc XC args s mc ms free) (entryFrame m args maxL)) : vx_Met l y ws rm Pc Qc XC mc ms free := by
  refine MetFree.of_bodyS (code := cc) (maxLocals := maxL) (ret := ret) hy ?_ ?_
  · intro args s m h hn
    obtain ⟨m9, meth, c, hn9, h1, h2, h3, h4, -, h5, h6, -⟩ := Cond.codeWith_spec (atoms_spec (ws := ws) h _ (by rw [hw]; exact List.mem_cons_self))
    cases hn.symm.trans hn9
    exact ⟨meth, c, h1, h2, h3, h4, h5, h6⟩
  · intro p e s m args below meth c s₁ B hml hP _
    have hh0 : s₁.heap = s.heap := by rw [B.state]; rfl
    obtain ⟨t, a1, o, b1, b2, b3⟩ := body p e s m args below meth c s₁ B hml hP s₁ hh0 (Stand.of_body B)
    exact ⟨t, o, a1, b1, b2, b3⟩
/-! ===== END ===== -/
end
section
/-! ===== BEGIN printed: names, fields, word lists, decode rows ===== -/
def RX0 : String := "NameScopes$Facts"
def TX0 : u_T := fun k => match k with
  | 0 => ("NameScopes$Facts", "scopes", "I", false)
  | 1 => ("NameScopes$Facts", "parents", "[I", true)
  | 2 => ("NameScopes$Facts", "declarations", "I", false)
  | 3 => ("NameScopes$Facts", "declScope", "[I", true)
  | 4 => ("NameScopes$Facts", "declName", "[I", true)
  | 5 => ("NameScopes$Facts", "declPublic", "[I", true)
  | 6 => ("NameScopes$Facts", "imports", "I", false)
  | 7 => ("NameScopes$Facts", "into", "[I", true)
  | 8 => ("NameScopes$Facts", "from", "[I", true)
  | 9 => ("NameScopes$Facts", "source", "[I", true)
  | 10 => ("NameScopes$Facts", "local", "[I", true)
  | 11 => ("NameScopes$Facts", "excepted", "[I", true)
  | 12 => ("NameScopes$Facts", "passed", "[I", true)
  | 13 => ("NameScopes$Facts", "uses", "I", false)
  | 14 => ("NameScopes$Facts", "useScope", "[I", true)
  | 15 => ("NameScopes$Facts", "useName", "[I", true)
  | 16 => ("NameScopes$Facts", "losses", "[I", true)
  | _ => ("NameScopes$Facts", "layers", "LNameScopes$Layers;", true)
def tyX0 : Nat → FieldType := fun k => match k with
  | 0 => .int
  | 1 => .array .int
  | 2 => .int
  | 3 => .array .int
  | 4 => .array .int
  | 5 => .array .int
  | 6 => .int
  | 7 => .array .int
  | 8 => .array .int
  | 9 => .array .int
  | 10 => .array .int
  | 11 => .array .int
  | 12 => .array .int
  | 13 => .int
  | 14 => .array .int
  | 15 => .array .int
  | 16 => .array .int
  | _ => .object "NameScopes$Layers"
abbrev wsX00 : List Cond := u_ws RX0 TX0 18
theorem nmX0 : ∀ a, a < 18 → ∀ b, b < 18 → a ≠ b → (TX0 a).2.1 ≠ (TX0 b).2.1 := by decide +kernel
theorem tyX0_ok : ∀ k, k < 18 → parseFieldDescriptor (TX0 k).2.2.1 = some (tyX0 k) := by decide +kernel
abbrev cX0_init : ByteArray := prog_2_method_1_code
def yX0_init : MethodName := ⟨RX0, "<init>", "()V"⟩
abbrev cX0_reset : ByteArray := prog_2_method_2_code
def yX0_reset : MethodName := ⟨RX0, "reset", "()V"⟩
abbrev cX0_copyFrom : ByteArray := prog_2_method_3_code
def yX0_copyFrom : MethodName := ⟨RX0, "copyFrom", "(LNameScopes$Facts;)V"⟩
abbrev cX0_settle : ByteArray := prog_2_method_4_code
def yX0_settle : MethodName := ⟨RX0, "settle", "()V"⟩
abbrev cX0_hasScope : ByteArray := prog_2_method_5_code
def yX0_hasScope : MethodName := ⟨RX0, "hasScope", "(I)Z"⟩
abbrev cX0_refusalOfScope : ByteArray := prog_2_method_6_code
def yX0_refusalOfScope : MethodName := ⟨RX0, "refusalOfScope", "(I)I"⟩
abbrev cX0_putScope : ByteArray := prog_2_method_7_code
def yX0_putScope : MethodName := ⟨RX0, "putScope", "(I)I"⟩
abbrev cX0_refusalOfDeclaration : ByteArray := prog_2_method_8_code
def yX0_refusalOfDeclaration : MethodName := ⟨RX0, "refusalOfDeclaration", "(II)I"⟩
abbrev cX0_declares : ByteArray := prog_2_method_9_code
def yX0_declares : MethodName := ⟨RX0, "declares", "(II)Z"⟩
abbrev cX0_putDeclaration : ByteArray := prog_2_method_10_code
def yX0_putDeclaration : MethodName := ⟨RX0, "putDeclaration", "(III)I"⟩
abbrev cX0_refusalOfImport : ByteArray := prog_2_method_11_code
def yX0_refusalOfImport : MethodName := ⟨RX0, "refusalOfImport", "(IIZ)I"⟩
abbrev cX0_putImport : ByteArray := prog_2_method_12_code
def yX0_putImport : MethodName := ⟨RX0, "putImport", "(IIIIII)I"⟩
abbrev cX0_refusalOfUse : ByteArray := prog_2_method_13_code
def yX0_refusalOfUse : MethodName := ⟨RX0, "refusalOfUse", "(II)I"⟩
abbrev cX0_putUse : ByteArray := prog_2_method_14_code
def yX0_putUse : MethodName := ⟨RX0, "putUse", "(II)I"⟩
abbrev cX0_closeGap : ByteArray := prog_2_method_15_code
def yX0_closeGap : MethodName := ⟨RX0, "closeGap", "([III)V"⟩
abbrev cX0_dropDeclaration : ByteArray := prog_2_method_16_code
def yX0_dropDeclaration : MethodName := ⟨RX0, "dropDeclaration", "(I)V"⟩
abbrev cX0_dropImport : ByteArray := prog_2_method_17_code
def yX0_dropImport : MethodName := ⟨RX0, "dropImport", "(I)V"⟩
abbrev cX0_dropUse : ByteArray := prog_2_method_18_code
def yX0_dropUse : MethodName := ⟨RX0, "dropUse", "(I)V"⟩
abbrev cX0_giveName : ByteArray := prog_2_method_19_code
def yX0_giveName : MethodName := ⟨RX0, "giveName", "(IILNameScopes$Facts;)V"⟩
abbrev cX0_followsRenaming : ByteArray := prog_2_method_20_code
def yX0_followsRenaming : MethodName := ⟨RX0, "followsRenaming", "(II)Z"⟩
abbrev cX0_firstLayer : ByteArray := prog_2_method_21_code
def yX0_firstLayer : MethodName := ⟨RX0, "firstLayer", "(II)I"⟩
abbrev cX0_placeOfLayer : ByteArray := prog_2_method_22_code
def yX0_placeOfLayer : MethodName := ⟨RX0, "placeOfLayer", "(III)I"⟩
abbrev cX0_layersOf : ByteArray := prog_2_method_23_code
def yX0_layersOf : MethodName := ⟨RX0, "layersOf", "(II)I"⟩
abbrev cX0_layerAt : ByteArray := prog_2_method_24_code
def yX0_layerAt : MethodName := ⟨RX0, "layerAt", "(III)I"⟩
abbrev cX0_outcome : ByteArray := prog_2_method_25_code
def yX0_outcome : MethodName := ⟨RX0, "outcome", "(I)I"⟩
abbrev cX0_stateOfUse : ByteArray := prog_2_method_26_code
def yX0_stateOfUse : MethodName := ⟨RX0, "stateOfUse", "(I)I"⟩
abbrev cX0_usesInState : ByteArray := prog_2_method_27_code
def yX0_usesInState : MethodName := ⟨RX0, "usesInState", "(I)I"⟩
abbrev cX0_usesResolvedTo : ByteArray := prog_2_method_28_code
def yX0_usesResolvedTo : MethodName := ⟨RX0, "usesResolvedTo", "(I)I"⟩
abbrev cX0_unusedDeclarations : ByteArray := prog_2_method_29_code
def yX0_unusedDeclarations : MethodName := ⟨RX0, "unusedDeclarations", "()I"⟩
abbrev cX0_pairsBrought : ByteArray := prog_2_method_30_code
def yX0_pairsBrought : MethodName := ⟨RX0, "pairsBrought", "(I)I"⟩
abbrev cX0_vainSingleImports : ByteArray := prog_2_method_31_code
def yX0_vainSingleImports : MethodName := ⟨RX0, "vainSingleImports", "()I"⟩
abbrev cX0_greatestDepth : ByteArray := prog_2_method_32_code
def yX0_greatestDepth : MethodName := ⟨RX0, "greatestDepth", "()I"⟩
abbrev cX0_pairsOffered : ByteArray := prog_2_method_33_code
def yX0_pairsOffered : MethodName := ⟨RX0, "pairsOffered", "()I"⟩
abbrev cX0_scopesThatOffer : ByteArray := prog_2_method_34_code
def yX0_scopesThatOffer : MethodName := ⟨RX0, "scopesThatOffer", "(I)I"⟩
abbrev cX0_scopesThatSee : ByteArray := prog_2_method_35_code
def yX0_scopesThatSee : MethodName := ⟨RX0, "scopesThatSee", "(I)I"⟩
def RX1 : String := "NameScopes$Layers"
def TX1 : u_T := fun k => match k with
  | 0 => ("NameScopes$Layers", "offered", "[I", true)
  | 1 => ("NameScopes$Layers", "own", "[I", true)
  | 2 => ("NameScopes$Layers", "single", "[I", true)
  | 3 => ("NameScopes$Layers", "full", "[I", true)
  | 4 => ("NameScopes$Layers", "offeredNames", "[I", true)
  | _ => ("NameScopes$Layers", "ownNames", "[I", true)
def tyX1 : Nat → FieldType := fun k => match k with
  | 0 => .array .int
  | 1 => .array .int
  | 2 => .array .int
  | 3 => .array .int
  | 4 => .array .int
  | _ => .array .int
abbrev wsX10 : List Cond := u_ws RX1 TX1 6
theorem nmX1 : ∀ a, a < 6 → ∀ b, b < 6 → a ≠ b → (TX1 a).2.1 ≠ (TX1 b).2.1 := by decide +kernel
theorem tyX1_ok : ∀ k, k < 6 → parseFieldDescriptor (TX1 k).2.2.1 = some (tyX1 k) := by decide +kernel
abbrev cX1_init : ByteArray := prog_3_method_1_code
def yX1_init : MethodName := ⟨RX1, "<init>", "()V"⟩
abbrev cX1_ofSort : ByteArray := prog_3_method_2_code
def yX1_ofSort : MethodName := ⟨RX1, "ofSort", "(II)I"⟩
abbrev cX1_clear : ByteArray := prog_3_method_3_code
def yX1_clear : MethodName := ⟨RX1, "clear", "()V"⟩
abbrev cX1_placeDeclarations : ByteArray := prog_3_method_4_code
def yX1_placeDeclarations : MethodName := ⟨RX1, "placeDeclarations", "(LNameScopes$Facts;)V"⟩
abbrev cX1_passOnAll : ByteArray := prog_3_method_5_code
def yX1_passOnAll : MethodName := ⟨RX1, "passOnAll", "(LNameScopes$Facts;)V"⟩
abbrev cX1_passOn : ByteArray := prog_3_method_6_code
def yX1_passOn : MethodName := ⟨RX1, "passOn", "(LNameScopes$Facts;I)Z"⟩
abbrev cX1_bringAll : ByteArray := prog_3_method_7_code
def yX1_bringAll : MethodName := ⟨RX1, "bringAll", "(LNameScopes$Facts;)V"⟩
def RX2 : String := "NameScopes$Text"
def TX2 : u_T := fun k => match k with
  | 0 => ("NameScopes$Text", "codes", "[I", true)
  | _ => ("NameScopes$Text", "length", "I", false)
def tyX2 : Nat → FieldType := fun k => match k with
  | 0 => .array .int
  | _ => .int
abbrev wsX20 : List Cond := u_ws RX2 TX2 2
theorem nmX2 : ∀ a, a < 2 → ∀ b, b < 2 → a ≠ b → (TX2 a).2.1 ≠ (TX2 b).2.1 := by decide +kernel
theorem tyX2_ok : ∀ k, k < 2 → parseFieldDescriptor (TX2 k).2.2.1 = some (tyX2 k) := by decide +kernel
abbrev cX2_init : ByteArray := prog_4_method_1_code
def yX2_init : MethodName := ⟨RX2, "<init>", "()V"⟩
abbrev cX2_put : ByteArray := prog_4_method_2_code
def yX2_put : MethodName := ⟨RX2, "put", "(I)I"⟩
abbrev cX2_codeAt : ByteArray := prog_4_method_3_code
def yX2_codeAt : MethodName := ⟨RX2, "codeAt", "(I)I"⟩
abbrev cX2_firstWrong : ByteArray := prog_4_method_4_code
def yX2_firstWrong : MethodName := ⟨RX2, "firstWrong", "()I"⟩
abbrev cX2_isComplete : ByteArray := prog_4_method_5_code
def yX2_isComplete : MethodName := ⟨RX2, "isComplete", "()Z"⟩
abbrev cX2_after : ByteArray := prog_4_method_6_code
def yX2_after : MethodName := ⟨RX2, "after", "(II)I"⟩
abbrev cX2_afterScope : ByteArray := prog_4_method_7_code
def yX2_afterScope : MethodName := ⟨RX2, "afterScope", "(I)I"⟩
abbrev cX2_putItems : ByteArray := prog_4_method_8_code
def yX2_putItems : MethodName := ⟨RX2, "putItems", "(LNameScopes$Facts;)I"⟩
abbrev cX2_putItem : ByteArray := prog_4_method_9_code
def yX2_putItem : MethodName := ⟨RX2, "putItem", "(LNameScopes$Facts;I)I"⟩
abbrev cX2_putImportItem : ByteArray := prog_4_method_10_code
def yX2_putImportItem : MethodName := ⟨RX2, "putImportItem", "(LNameScopes$Facts;II)I"⟩
abbrev cX2_exceptedFrom : ByteArray := prog_4_method_11_code
def yX2_exceptedFrom : MethodName := ⟨RX2, "exceptedFrom", "(I)I"⟩
def RX3 : String := "NameScopes"
def TX3 : u_T := fun k => match k with
  | 0 => ("NameScopes", "text", "LNameScopes$Text;", true)
  | 1 => ("NameScopes", "now", "LNameScopes$Facts;", false)
  | _ => ("NameScopes", "other", "LNameScopes$Facts;", false)
def tyX3 : Nat → FieldType := fun k => match k with
  | 0 => .object "NameScopes$Text"
  | 1 => .object "NameScopes$Facts"
  | _ => .object "NameScopes$Facts"
abbrev wsX30 : List Cond := u_ws RX3 TX3 3
theorem nmX3 : ∀ a, a < 3 → ∀ b, b < 3 → a ≠ b → (TX3 a).2.1 ≠ (TX3 b).2.1 := by decide +kernel
theorem tyX3_ok : ∀ k, k < 3 → parseFieldDescriptor (TX3 k).2.2.1 = some (tyX3 k) := by decide +kernel
abbrev cX3_init : ByteArray := prog_1_method_1_code
def yX3_init : MethodName := ⟨RX3, "<init>", "()V"⟩
abbrev cX3_begin : ByteArray := prog_1_method_2_code
def yX3_begin : MethodName := ⟨RX3, "begin", "()I"⟩
abbrev cX3_addScope : ByteArray := prog_1_method_3_code
def yX3_addScope : MethodName := ⟨RX3, "addScope", "(I)I"⟩
abbrev cX3_declare : ByteArray := prog_1_method_4_code
def yX3_declare : MethodName := ⟨RX3, "declare", "(IIZ)I"⟩
abbrev cX3_importOne : ByteArray := prog_1_method_5_code
def yX3_importOne : MethodName := ⟨RX3, "importOne", "(IIIIZ)I"⟩
abbrev cX3_importAll : ByteArray := prog_1_method_6_code
def yX3_importAll : MethodName := ⟨RX3, "importAll", "(IIIZ)I"⟩
abbrev cX3_use : ByteArray := prog_1_method_7_code
def yX3_use : MethodName := ⟨RX3, "use", "(II)I"⟩
abbrev cX3_remove : ByteArray := prog_1_method_8_code
def yX3_remove : MethodName := ⟨RX3, "remove", "(II)I"⟩
abbrev cX3_append : ByteArray := prog_1_method_9_code
def yX3_append : MethodName := ⟨RX3, "append", "(I)I"⟩
abbrev cX3_clearBuffer : ByteArray := prog_1_method_10_code
def yX3_clearBuffer : MethodName := ⟨RX3, "clearBuffer", "()I"⟩
abbrev cX3_firstError : ByteArray := prog_1_method_11_code
def yX3_firstError : MethodName := ⟨RX3, "firstError", "()I"⟩
abbrev cX3_load : ByteArray := prog_1_method_12_code
def yX3_load : MethodName := ⟨RX3, "load", "()I"⟩
abbrev cX3_resolve : ByteArray := prog_1_method_13_code
def yX3_resolve : MethodName := ⟨RX3, "resolve", "(III)I"⟩
abbrev cX3_candidate : ByteArray := prog_1_method_14_code
def yX3_candidate : MethodName := ⟨RX3, "candidate", "(IIII)I"⟩
abbrev cX3_offers : ByteArray := prog_1_method_15_code
def yX3_offers : MethodName := ⟨RX3, "offers", "(II)I"⟩
abbrev cX3_visible : ByteArray := prog_1_method_16_code
def yX3_visible : MethodName := ⟨RX3, "visible", "(IZ)I"⟩
abbrev cX3_rename : ByteArray := prog_1_method_17_code
def yX3_rename : MethodName := ⟨RX3, "rename", "(II)I"⟩
abbrev cX3_ifRenamed : ByteArray := prog_1_method_18_code
def yX3_ifRenamed : MethodName := ⟨RX3, "ifRenamed", "(III)I"⟩
abbrev cX3_freeName : ByteArray := prog_1_method_19_code
def yX3_freeName : MethodName := ⟨RX3, "freeName", "(I)I"⟩
abbrev cX3_count : ByteArray := prog_1_method_20_code
def yX3_count : MethodName := ⟨RX3, "count", "(I)I"⟩
abbrev cX3_declaration : ByteArray := prog_1_method_21_code
def yX3_declaration : MethodName := ⟨RX3, "declaration", "(II)I"⟩
abbrev cX3_imported : ByteArray := prog_1_method_22_code
def yX3_imported : MethodName := ⟨RX3, "imported", "(II)I"⟩
abbrev cX3_used : ByteArray := prog_1_method_23_code
def yX3_used : MethodName := ⟨RX3, "used", "(II)I"⟩
abbrev cX3_parent : ByteArray := prog_1_method_24_code
def yX3_parent : MethodName := ⟨RX3, "parent", "(I)I"⟩
abbrev cX3_resolvedShare : ByteArray := prog_1_method_25_code
def yX3_resolvedShare : MethodName := ⟨RX3, "resolvedShare", "()D"⟩
abbrev cX3_digest : ByteArray := prog_1_method_26_code
def yX3_digest : MethodName := ⟨RX3, "digest", "()J"⟩
abbrev cX3_isName : ByteArray := prog_1_method_27_code
def yX3_isName : MethodName := ⟨RX3, "isName", "(I)Z"⟩
abbrev cX3_needIndex : ByteArray := prog_1_method_28_code
def yX3_needIndex : MethodName := ⟨RX3, "needIndex", "(II)V"⟩
abbrev cX3_needBelow : ByteArray := prog_1_method_29_code
def yX3_needBelow : MethodName := ⟨RX3, "needBelow", "(II)V"⟩
abbrev cX3_throwIfRefused : ByteArray := prog_1_method_30_code
def yX3_throwIfRefused : MethodName := ⟨RX3, "throwIfRefused", "(I)V"⟩
abbrev cX3_onlyOne : ByteArray := prog_1_method_31_code
def yX3_onlyOne : MethodName := ⟨RX3, "onlyOne", "(I)I"⟩
abbrev cX3_nthOf : ByteArray := prog_1_method_32_code
def yX3_nthOf : MethodName := ⟨RX3, "nthOf", "(II)I"⟩
abbrev cX3_exchange : ByteArray := prog_1_method_33_code
def yX3_exchange : MethodName := ⟨RX3, "exchange", "()V"⟩
abbrev cX3_lossWithout : ByteArray := prog_1_method_34_code
def yX3_lossWithout : MethodName := ⟨RX3, "lossWithout", "(I)I"⟩
abbrev cX3_importsWithoutLoss : ByteArray := prog_1_method_35_code
def yX3_importsWithoutLoss : MethodName := ⟨RX3, "importsWithoutLoss", "()I"⟩
abbrev cX3_removeImport : ByteArray := prog_1_method_36_code
def yX3_removeImport : MethodName := ⟨RX3, "removeImport", "(I)I"⟩
abbrev cX3_removeDeclaration : ByteArray := prog_1_method_37_code
def yX3_removeDeclaration : MethodName := ⟨RX3, "removeDeclaration", "(I)I"⟩
abbrev cX3_reasonAgainst : ByteArray := prog_1_method_38_code
def yX3_reasonAgainst : MethodName := ⟨RX3, "reasonAgainst", "(II)I"⟩
abbrev cX3_firstChanged : ByteArray := prog_1_method_39_code
def yX3_firstChanged : MethodName := ⟨RX3, "firstChanged", "(IZ)I"⟩
abbrev cX3_usesToRename : ByteArray := prog_1_method_40_code
def yX3_usesToRename : MethodName := ⟨RX3, "usesToRename", "(I)I"⟩
def RX4 : String := "NameScopesModel"
def TX4 : u_T := fun k => match k with
  | 0 => ("NameScopesModel", "thrown", "I", false)
  | 1 => ("NameScopesModel", "z", "[I", true)
  | 2 => ("NameScopesModel", "aside", "[I", true)
  | 3 => ("NameScopesModel", "offered", "[I", true)
  | 4 => ("NameScopesModel", "isLaid", "Z", false)
  | 5 => ("NameScopesModel", "length", "I", false)
  | 6 => ("NameScopesModel", "text", "[I", true)
  | 7 => ("NameScopesModel", "layers", "I", false)
  | 8 => ("NameScopesModel", "sets", "[I", true)
  | 9 => ("NameScopesModel", "sorts", "[I", true)
  | 10 => ("NameScopesModel", "steps", "[I", true)
  | 11 => ("NameScopesModel", "was", "[I", true)
  | 12 => ("NameScopesModel", "step", "I", false)
  | 13 => ("NameScopesModel", "sign", "I", false)
  | 14 => ("NameScopesModel", "into", "I", false)
  | 15 => ("NameScopesModel", "from", "I", false)
  | 16 => ("NameScopesModel", "first", "I", false)
  | 17 => ("NameScopesModel", "second", "I", false)
  | 18 => ("NameScopesModel", "excepted", "I", false)
  | 19 => ("NameScopesModel", "isPassed", "Z", false)
  | 20 => ("NameScopesModel", "loads", "Z", false)
  | 21 => ("NameScopesModel", "fails", "Z", false)
  | 22 => ("NameScopesModel", "items", "I", false)
  | 23 => ("NameScopesModel", "against", "I", false)
  | 24 => ("NameScopesModel", "renamed", "I", false)
  | _ => ("NameScopesModel", "h", "J", false)
def tyX4 : Nat → FieldType := fun k => match k with
  | 0 => .int
  | 1 => .array .int
  | 2 => .array .int
  | 3 => .array .int
  | 4 => .boolean
  | 5 => .int
  | 6 => .array .int
  | 7 => .int
  | 8 => .array .int
  | 9 => .array .int
  | 10 => .array .int
  | 11 => .array .int
  | 12 => .int
  | 13 => .int
  | 14 => .int
  | 15 => .int
  | 16 => .int
  | 17 => .int
  | 18 => .int
  | 19 => .boolean
  | 20 => .boolean
  | 21 => .boolean
  | 22 => .int
  | 23 => .int
  | 24 => .int
  | _ => .long
abbrev wsX40 : List Cond := u_ws RX4 TX4 26
theorem nmX4 : ∀ a, a < 26 → ∀ b, b < 26 → a ≠ b → (TX4 a).2.1 ≠ (TX4 b).2.1 := by decide +kernel
theorem tyX4_ok : ∀ k, k < 26 → parseFieldDescriptor (TX4 k).2.2.1 = some (tyX4 k) := by decide +kernel
abbrev cX4_init : ByteArray := prog_6_method_1_code
def yX4_init : MethodName := ⟨RX4, "<init>", "()V"⟩
abbrev cX4_thrown : ByteArray := prog_6_method_2_code
def yX4_thrown : MethodName := ⟨RX4, "thrown", "()I"⟩
abbrev cX4_within : ByteArray := prog_6_method_3_code
def yX4_within : MethodName := ⟨RX4, "within", "(III)Z"⟩
abbrev cX4_isName : ByteArray := prog_6_method_4_code
def yX4_isName : MethodName := ⟨RX4, "isName", "(I)Z"⟩
abbrev cX4_isScope : ByteArray := prog_6_method_5_code
def yX4_isScope : MethodName := ⟨RX4, "isScope", "(I)Z"⟩
abbrev cX4_of : ByteArray := prog_6_method_6_code
def yX4_of : MethodName := ⟨RX4, "of", "(II)I"⟩
abbrev cX4_at : ByteArray := prog_6_method_7_code
def yX4_at : MethodName := ⟨RX4, "at", "(II)I"⟩
abbrev cX4_isSingle : ByteArray := prog_6_method_8_code
def yX4_isSingle : MethodName := ⟨RX4, "isSingle", "(I)Z"⟩
abbrev cX4_fresh : ByteArray := prog_6_method_9_code
def yX4_fresh : MethodName := ⟨RX4, "fresh", "()V"⟩
abbrev cX4_bits : ByteArray := prog_6_method_10_code
def yX4_bits : MethodName := ⟨RX4, "bits", "(I)I"⟩
abbrev cX4_declaredIn : ByteArray := prog_6_method_11_code
def yX4_declaredIn : MethodName := ⟨RX4, "declaredIn", "(II)I"⟩
abbrev cX4_offer : ByteArray := prog_6_method_12_code
def yX4_offer : MethodName := ⟨RX4, "offer", "(II)I"⟩
abbrev cX4_brought : ByteArray := prog_6_method_13_code
def yX4_brought : MethodName := ⟨RX4, "brought", "(II)I"⟩
abbrev cX4_passOn : ByteArray := prog_6_method_14_code
def yX4_passOn : MethodName := ⟨RX4, "passOn", "()Z"⟩
abbrev cX4_lay : ByteArray := prog_6_method_15_code
def yX4_lay : MethodName := ⟨RX4, "lay", "()V"⟩
abbrev cX4_layer : ByteArray := prog_6_method_16_code
def yX4_layer : MethodName := ⟨RX4, "layer", "(III)I"⟩
abbrev cX4_layLayers : ByteArray := prog_6_method_17_code
def yX4_layLayers : MethodName := ⟨RX4, "layLayers", "(II)V"⟩
abbrev cX4_outcome : ByteArray := prog_6_method_18_code
def yX4_outcome : MethodName := ⟨RX4, "outcome", "(II)I"⟩
abbrev cX4_lowest : ByteArray := prog_6_method_19_code
def yX4_lowest : MethodName := ⟨RX4, "lowest", "(I)I"⟩
abbrev cX4_only : ByteArray := prog_6_method_20_code
def yX4_only : MethodName := ⟨RX4, "only", "(I)I"⟩
abbrev cX4_useScope : ByteArray := prog_6_method_21_code
def yX4_useScope : MethodName := ⟨RX4, "useScope", "(I)I"⟩
abbrev cX4_useName : ByteArray := prog_6_method_22_code
def yX4_useName : MethodName := ⟨RX4, "useName", "(I)I"⟩
abbrev cX4_outcomeOf : ByteArray := prog_6_method_23_code
def yX4_outcomeOf : MethodName := ⟨RX4, "outcomeOf", "(I)I"⟩
abbrev cX4_begin : ByteArray := prog_6_method_24_code
def yX4_begin : MethodName := ⟨RX4, "begin", "()I"⟩
abbrev cX4_addScope : ByteArray := prog_6_method_25_code
def yX4_addScope : MethodName := ⟨RX4, "addScope", "(I)I"⟩
abbrev cX4_declare : ByteArray := prog_6_method_26_code
def yX4_declare : MethodName := ⟨RX4, "declare", "(IIZ)I"⟩
abbrev cX4_addImport : ByteArray := prog_6_method_27_code
def yX4_addImport : MethodName := ⟨RX4, "addImport", "(IIIIIZ)I"⟩
abbrev cX4_wrongImport : ByteArray := prog_6_method_28_code
def yX4_wrongImport : MethodName := ⟨RX4, "wrongImport", "(IIZ)I"⟩
abbrev cX4_importOne : ByteArray := prog_6_method_29_code
def yX4_importOne : MethodName := ⟨RX4, "importOne", "(IIIIZ)I"⟩
abbrev cX4_importAll : ByteArray := prog_6_method_30_code
def yX4_importAll : MethodName := ⟨RX4, "importAll", "(IIIZ)I"⟩
abbrev cX4_use : ByteArray := prog_6_method_31_code
def yX4_use : MethodName := ⟨RX4, "use", "(II)I"⟩
abbrev cX4_layOutcomes : ByteArray := prog_6_method_32_code
def yX4_layOutcomes : MethodName := ⟨RX4, "layOutcomes", "()V"⟩
abbrev cX4_otherOutcomes : ByteArray := prog_6_method_33_code
def yX4_otherOutcomes : MethodName := ⟨RX4, "otherOutcomes", "()I"⟩
abbrev cX4_cut : ByteArray := prog_6_method_34_code
def yX4_cut : MethodName := ⟨RX4, "cut", "(IIII)V"⟩
abbrev cX4_lowered : ByteArray := prog_6_method_35_code
def yX4_lowered : MethodName := ⟨RX4, "lowered", "(II)I"⟩
abbrev cX4_removes : ByteArray := prog_6_method_36_code
def yX4_removes : MethodName := ⟨RX4, "removes", "(II)I"⟩
abbrev cX4_remove : ByteArray := prog_6_method_37_code
def yX4_remove : MethodName := ⟨RX4, "remove", "(II)I"⟩
abbrev cX4_append : ByteArray := prog_6_method_38_code
def yX4_append : MethodName := ⟨RX4, "append", "(I)I"⟩
abbrev cX4_clearBuffer : ByteArray := prog_6_method_39_code
def yX4_clearBuffer : MethodName := ⟨RX4, "clearBuffer", "()I"⟩
abbrev cX4_isScopeLetter : ByteArray := prog_6_method_40_code
def yX4_isScopeLetter : MethodName := ⟨RX4, "isScopeLetter", "(I)Z"⟩
abbrev cX4_isNameLetter : ByteArray := prog_6_method_41_code
def yX4_isNameLetter : MethodName := ⟨RX4, "isNameLetter", "(I)Z"⟩
abbrev cX4_goes : ByteArray := prog_6_method_42_code
def yX4_goes : MethodName := ⟨RX4, "goes", "(ZI)Z"⟩
abbrev cX4_canEnd : ByteArray := prog_6_method_43_code
def yX4_canEnd : MethodName := ⟨RX4, "canEnd", "()Z"⟩
abbrev cX4_takesSign : ByteArray := prog_6_method_44_code
def yX4_takesSign : MethodName := ⟨RX4, "takesSign", "(I)Z"⟩
abbrev cX4_takesFrom : ByteArray := prog_6_method_45_code
def yX4_takesFrom : MethodName := ⟨RX4, "takesFrom", "(I)Z"⟩
abbrev cX4_takesName : ByteArray := prog_6_method_46_code
def yX4_takesName : MethodName := ⟨RX4, "takesName", "(I)Z"⟩
abbrev cX4_takes : ByteArray := prog_6_method_47_code
def yX4_takes : MethodName := ⟨RX4, "takes", "(I)Z"⟩
abbrev cX4_endItem : ByteArray := prog_6_method_48_code
def yX4_endItem : MethodName := ⟨RX4, "endItem", "()V"⟩
abbrev cX4_read : ByteArray := prog_6_method_49_code
def yX4_read : MethodName := ⟨RX4, "read", "(Z)I"⟩
abbrev cX4_firstError : ByteArray := prog_6_method_50_code
def yX4_firstError : MethodName := ⟨RX4, "firstError", "()I"⟩
abbrev cX4_copy : ByteArray := prog_6_method_51_code
def yX4_copy : MethodName := ⟨RX4, "copy", "([I[I)V"⟩
abbrev cX4_load : ByteArray := prog_6_method_52_code
def yX4_load : MethodName := ⟨RX4, "load", "()I"⟩
abbrev cX4_resolved : ByteArray := prog_6_method_53_code
def yX4_resolved : MethodName := ⟨RX4, "resolved", "(III)I"⟩
abbrev cX4_resolve : ByteArray := prog_6_method_54_code
def yX4_resolve : MethodName := ⟨RX4, "resolve", "(III)I"⟩
abbrev cX4_candidateOf : ByteArray := prog_6_method_55_code
def yX4_candidateOf : MethodName := ⟨RX4, "candidateOf", "(IIII)I"⟩
abbrev cX4_candidate : ByteArray := prog_6_method_56_code
def yX4_candidate : MethodName := ⟨RX4, "candidate", "(IIII)I"⟩
abbrev cX4_offers : ByteArray := prog_6_method_57_code
def yX4_offers : MethodName := ⟨RX4, "offers", "(II)I"⟩
abbrev cX4_seen : ByteArray := prog_6_method_58_code
def yX4_seen : MethodName := ⟨RX4, "seen", "(IZ)I"⟩
abbrev cX4_visible : ByteArray := prog_6_method_59_code
def yX4_visible : MethodName := ⟨RX4, "visible", "(IZ)I"⟩
abbrev cX4_changeNames : ByteArray := prog_6_method_60_code
def yX4_changeNames : MethodName := ⟨RX4, "changeNames", "(II)V"⟩
abbrev cX4_renames : ByteArray := prog_6_method_61_code
def yX4_renames : MethodName := ⟨RX4, "renames", "(IIZ)I"⟩
abbrev cX4_isDeclaration : ByteArray := prog_6_method_62_code
def yX4_isDeclaration : MethodName := ⟨RX4, "isDeclaration", "(I)Z"⟩
abbrev cX4_rename : ByteArray := prog_6_method_63_code
def yX4_rename : MethodName := ⟨RX4, "rename", "(II)I"⟩
abbrev cX4_ifRenamed : ByteArray := prog_6_method_64_code
def yX4_ifRenamed : MethodName := ⟨RX4, "ifRenamed", "(III)I"⟩
abbrev cX4_freeName : ByteArray := prog_6_method_65_code
def yX4_freeName : MethodName := ⟨RX4, "freeName", "(I)I"⟩
abbrev cX4_usesOf : ByteArray := prog_6_method_66_code
def yX4_usesOf : MethodName := ⟨RX4, "usesOf", "(I)I"⟩
abbrev cX4_usesWith : ByteArray := prog_6_method_67_code
def yX4_usesWith : MethodName := ⟨RX4, "usesWith", "(II)I"⟩
abbrev cX4_without : ByteArray := prog_6_method_68_code
def yX4_without : MethodName := ⟨RX4, "without", "(I)I"⟩
abbrev cX4_pairsOf : ByteArray := prog_6_method_69_code
def yX4_pairsOf : MethodName := ⟨RX4, "pairsOf", "(I)I"⟩
abbrev cX4_depth : ByteArray := prog_6_method_70_code
def yX4_depth : MethodName := ⟨RX4, "depth", "(I)I"⟩
abbrev cX4_unused : ByteArray := prog_6_method_71_code
def yX4_unused : MethodName := ⟨RX4, "unused", "()I"⟩
abbrev cX4_needless : ByteArray := prog_6_method_72_code
def yX4_needless : MethodName := ⟨RX4, "needless", "(Z)I"⟩
abbrev cX4_deepest : ByteArray := prog_6_method_73_code
def yX4_deepest : MethodName := ⟨RX4, "deepest", "()I"⟩
abbrev cX4_allPairs : ByteArray := prog_6_method_74_code
def yX4_allPairs : MethodName := ⟨RX4, "allPairs", "()I"⟩
abbrev cX4_counted : ByteArray := prog_6_method_75_code
def yX4_counted : MethodName := ⟨RX4, "counted", "(I)I"⟩
abbrev cX4_count : ByteArray := prog_6_method_76_code
def yX4_count : MethodName := ⟨RX4, "count", "(I)I"⟩
abbrev cX4_offering : ByteArray := prog_6_method_77_code
def yX4_offering : MethodName := ⟨RX4, "offering", "(I)I"⟩
abbrev cX4_reaching : ByteArray := prog_6_method_78_code
def yX4_reaching : MethodName := ⟨RX4, "reaching", "(I)I"⟩
abbrev cX4_declarationNow : ByteArray := prog_6_method_79_code
def yX4_declarationNow : MethodName := ⟨RX4, "declarationNow", "(II)I"⟩
abbrev cX4_declaration : ByteArray := prog_6_method_80_code
def yX4_declaration : MethodName := ⟨RX4, "declaration", "(II)I"⟩
abbrev cX4_importNow : ByteArray := prog_6_method_81_code
def yX4_importNow : MethodName := ⟨RX4, "importNow", "(II)I"⟩
abbrev cX4_imported : ByteArray := prog_6_method_82_code
def yX4_imported : MethodName := ⟨RX4, "imported", "(II)I"⟩
abbrev cX4_useNow : ByteArray := prog_6_method_83_code
def yX4_useNow : MethodName := ⟨RX4, "useNow", "(II)I"⟩
abbrev cX4_used : ByteArray := prog_6_method_84_code
def yX4_used : MethodName := ⟨RX4, "used", "(II)I"⟩
abbrev cX4_parent : ByteArray := prog_6_method_85_code
def yX4_parent : MethodName := ⟨RX4, "parent", "(I)I"⟩
abbrev cX4_resolvedShare : ByteArray := prog_6_method_86_code
def yX4_resolvedShare : MethodName := ⟨RX4, "resolvedShare", "()D"⟩
abbrev cX4_mix : ByteArray := prog_6_method_87_code
def yX4_mix : MethodName := ⟨RX4, "mix", "(J)V"⟩
abbrev cX4_mixParts : ByteArray := prog_6_method_88_code
def yX4_mixParts : MethodName := ⟨RX4, "mixParts", "()V"⟩
abbrev cX4_digest : ByteArray := prog_6_method_89_code
def yX4_digest : MethodName := ⟨RX4, "digest", "()J"⟩
def RJx145de : String := "java/io/Serializable"
def TJx145de : u_T := fun k => match k with
  | _ => ("", "", "", false)
def tyJx145de : Nat → FieldType := fun k => match k with
  | _ => .int
abbrev wsJx145de0 : List Cond := u_ws RJx145de TJx145de 0
theorem nmJx145de : ∀ a, a < 0 → ∀ b, b < 0 → a ≠ b → (TJx145de a).2.1 ≠ (TJx145de b).2.1 := by decide +kernel
theorem tyJx145de_ok : ∀ k, k < 0 → parseFieldDescriptor (TJx145de k).2.2.1 = some (tyJx145de k) := by decide +kernel
def RJ6 : String := "java/lang/Integer"
def TJ6 : u_T := fun k => match k with
  | _ => ("", "", "", false)
def tyJ6 : Nat → FieldType := fun k => match k with
  | _ => .int
abbrev wsJ60 : List Cond := u_ws RJ6 TJ6 0
theorem nmJ6 : ∀ a, a < 0 → ∀ b, b < 0 → a ≠ b → (TJ6 a).2.1 ≠ (TJ6 b).2.1 := by decide +kernel
theorem tyJ6_ok : ∀ k, k < 0 → parseFieldDescriptor (TJ6 k).2.2.1 = some (tyJ6 k) := by decide +kernel
abbrev cJ6_bitCount_0f7a4 : ByteArray := prog_11_method_49_code
def yJ6_bitCount_0f7a4 : MethodName := ⟨RJ6, "bitCount", "(I)I"⟩
def RJ9 : String := "java/lang/Math"
def TJ9 : u_T := fun k => match k with
  | _ => ("", "", "", false)
def tyJ9 : Nat → FieldType := fun k => match k with
  | _ => .int
abbrev wsJ90 : List Cond := u_ws RJ9 TJ9 0
theorem nmJ9 : ∀ a, a < 0 → ∀ b, b < 0 → a ≠ b → (TJ9 a).2.1 ≠ (TJ9 b).2.1 := by decide +kernel
theorem tyJ9_ok : ∀ k, k < 0 → parseFieldDescriptor (TJ9 k).2.2.1 = some (tyJ9 k) := by decide +kernel
abbrev cJ9_max_7cf53 : ByteArray := prog_12_method_65_code
def yJ9_max_7cf53 : MethodName := ⟨RJ9, "max", "(II)I"⟩
def RJ0 : String := "java/lang/String"
def TJ0 : u_T := fun k => match k with
  | _ => ("", "", "", false)
def tyJ0 : Nat → FieldType := fun k => match k with
  | _ => .int
abbrev wsJ00 : List Cond := u_ws RJ0 TJ0 0
theorem nmJ0 : ∀ a, a < 0 → ∀ b, b < 0 → a ≠ b → (TJ0 a).2.1 ≠ (TJ0 b).2.1 := by decide +kernel
theorem tyJ0_ok : ∀ k, k < 0 → parseFieldDescriptor (TJ0 k).2.2.1 = some (tyJ0 k) := by decide +kernel
def RJ10 : String := "java/lang/System"
def TJ10 : u_T := fun k => match k with
  | _ => ("", "", "", false)
def tyJ10 : Nat → FieldType := fun k => match k with
  | _ => .int
abbrev wsJ100 : List Cond := u_ws RJ10 TJ10 0
theorem nmJ10 : ∀ a, a < 0 → ∀ b, b < 0 → a ≠ b → (TJ10 a).2.1 ≠ (TJ10 b).2.1 := by decide +kernel
theorem tyJ10_ok : ∀ k, k < 0 → parseFieldDescriptor (TJ10 k).2.2.1 = some (tyJ10 k) := by decide +kernel
def RJ7 : String := "java/util/Arrays"
def TJ7 : u_T := fun k => match k with
  | _ => ("", "", "", false)
def tyJ7 : Nat → FieldType := fun k => match k with
  | _ => .int
abbrev wsJ70 : List Cond := u_ws RJ7 TJ7 0
theorem nmJ7 : ∀ a, a < 0 → ∀ b, b < 0 → a ≠ b → (TJ7 a).2.1 ≠ (TJ7 b).2.1 := by decide +kernel
theorem tyJ7_ok : ∀ k, k < 0 → parseFieldDescriptor (TJ7 k).2.2.1 = some (tyJ7 k) := by decide +kernel
abbrev cJ7_fill_53178 : ByteArray := prog_17_method_103_code
def yJ7_fill_53178 : MethodName := ⟨RJ7, "fill", "([II)V"⟩
def RL : String := "NameScopesLaw"
abbrev cL_addScope : ByteArray := method_3_code
def yL_addScope : MethodName := ⟨RL, "addScope", "(LNameScopes;I[J)I"⟩
abbrev cL_declare : ByteArray := method_4_code
def yL_declare : MethodName := ⟨RL, "declare", "(LNameScopes;IIZ[J)I"⟩
abbrev cL_importOne : ByteArray := method_5_code
def yL_importOne : MethodName := ⟨RL, "importOne", "(LNameScopes;IIIIZ[J)I"⟩
abbrev cL_importAll : ByteArray := method_6_code
def yL_importAll : MethodName := ⟨RL, "importAll", "(LNameScopes;IIIZ[J)I"⟩
abbrev cL_use : ByteArray := method_7_code
def yL_use : MethodName := ⟨RL, "use", "(LNameScopes;II[J)I"⟩
abbrev cL_remove : ByteArray := method_8_code
def yL_remove : MethodName := ⟨RL, "remove", "(LNameScopes;II[J)I"⟩
abbrev cL_append : ByteArray := method_9_code
def yL_append : MethodName := ⟨RL, "append", "(LNameScopes;I[J)I"⟩
abbrev cL_load : ByteArray := method_10_code
def yL_load : MethodName := ⟨RL, "load", "(LNameScopes;[J)I"⟩
abbrev cL_resolve : ByteArray := method_11_code
def yL_resolve : MethodName := ⟨RL, "resolve", "(LNameScopes;III[J)I"⟩
abbrev cL_candidate : ByteArray := method_12_code
def yL_candidate : MethodName := ⟨RL, "candidate", "(LNameScopes;IIII[J)I"⟩
abbrev cL_offers : ByteArray := method_13_code
def yL_offers : MethodName := ⟨RL, "offers", "(LNameScopes;II[J)I"⟩
abbrev cL_visible : ByteArray := method_14_code
def yL_visible : MethodName := ⟨RL, "visible", "(LNameScopes;IZ[J)I"⟩
abbrev cL_rename : ByteArray := method_15_code
def yL_rename : MethodName := ⟨RL, "rename", "(LNameScopes;II[J)I"⟩
abbrev cL_ifRenamed : ByteArray := method_16_code
def yL_ifRenamed : MethodName := ⟨RL, "ifRenamed", "(LNameScopes;III[J)I"⟩
abbrev cL_freeName : ByteArray := method_17_code
def yL_freeName : MethodName := ⟨RL, "freeName", "(LNameScopes;I[J)I"⟩
abbrev cL_count : ByteArray := method_18_code
def yL_count : MethodName := ⟨RL, "count", "(LNameScopes;I[J)I"⟩
abbrev cL_declaration : ByteArray := method_19_code
def yL_declaration : MethodName := ⟨RL, "declaration", "(LNameScopes;II[J)I"⟩
abbrev cL_imported : ByteArray := method_20_code
def yL_imported : MethodName := ⟨RL, "imported", "(LNameScopes;II[J)I"⟩
abbrev cL_used : ByteArray := method_21_code
def yL_used : MethodName := ⟨RL, "used", "(LNameScopes;II[J)I"⟩
abbrev cL_parent : ByteArray := method_22_code
def yL_parent : MethodName := ⟨RL, "parent", "(LNameScopes;I[J)I"⟩
abbrev cL_law : ByteArray := code
def yL_law : MethodName := ⟨RL, "law", "([I)Z"⟩
end
section
theorem dX0_init_0 : decode cX0_init 0 = .ok (.aload_n 0, 1) := by decide +kernel
theorem dX0_init_1 : decode cX0_init 1 = .ok (.invokespecial 3, 3) := by decide +kernel
theorem dX0_init_4 : decode cX0_init 4 = .ok (.aload_n 0, 1) := by decide +kernel
theorem dX0_init_5 : decode cX0_init 5 = .ok (.iconst 1, 1) := by decide +kernel
theorem dX0_init_6 : decode cX0_init 6 = .ok (.putfield 9, 3) := by decide +kernel
theorem dX0_init_9 : decode cX0_init 9 = .ok (.aload_n 0, 1) := by decide +kernel
theorem dX0_init_10 : decode cX0_init 10 = .ok (.bipush 16, 2) := by decide +kernel
theorem dX0_init_12 : decode cX0_init 12 = .ok (.newarray .int, 2) := by decide +kernel
theorem dX0_init_14 : decode cX0_init 14 = .ok (.putfield 15, 3) := by decide +kernel
theorem dX0_init_17 : decode cX0_init 17 = .ok (.aload_n 0, 1) := by decide +kernel
theorem dX0_init_18 : decode cX0_init 18 = .ok (.iconst 0, 1) := by decide +kernel
theorem dX0_init_19 : decode cX0_init 19 = .ok (.putfield 19, 3) := by decide +kernel
theorem dX0_init_22 : decode cX0_init 22 = .ok (.aload_n 0, 1) := by decide +kernel
theorem dX0_init_23 : decode cX0_init 23 = .ok (.bipush 30, 2) := by decide +kernel
theorem dX0_init_25 : decode cX0_init 25 = .ok (.newarray .int, 2) := by decide +kernel
theorem dX0_init_27 : decode cX0_init 27 = .ok (.putfield 22, 3) := by decide +kernel
theorem dX0_init_30 : decode cX0_init 30 = .ok (.aload_n 0, 1) := by decide +kernel
theorem dX0_init_31 : decode cX0_init 31 = .ok (.bipush 30, 2) := by decide +kernel
theorem dX0_init_33 : decode cX0_init 33 = .ok (.newarray .int, 2) := by decide +kernel
theorem dX0_init_35 : decode cX0_init 35 = .ok (.putfield 25, 3) := by decide +kernel
theorem dX0_init_38 : decode cX0_init 38 = .ok (.aload_n 0, 1) := by decide +kernel
theorem dX0_init_39 : decode cX0_init 39 = .ok (.bipush 30, 2) := by decide +kernel
theorem dX0_init_41 : decode cX0_init 41 = .ok (.newarray .int, 2) := by decide +kernel
theorem dX0_init_43 : decode cX0_init 43 = .ok (.putfield 28, 3) := by decide +kernel
theorem dX0_init_46 : decode cX0_init 46 = .ok (.aload_n 0, 1) := by decide +kernel
theorem dX0_init_47 : decode cX0_init 47 = .ok (.iconst 0, 1) := by decide +kernel
theorem dX0_init_48 : decode cX0_init 48 = .ok (.putfield 31, 3) := by decide +kernel
theorem dX0_init_51 : decode cX0_init 51 = .ok (.aload_n 0, 1) := by decide +kernel
theorem dX0_init_52 : decode cX0_init 52 = .ok (.bipush 20, 2) := by decide +kernel
theorem dX0_init_54 : decode cX0_init 54 = .ok (.newarray .int, 2) := by decide +kernel
theorem dX0_init_56 : decode cX0_init 56 = .ok (.putfield 34, 3) := by decide +kernel
theorem dX0_init_59 : decode cX0_init 59 = .ok (.aload_n 0, 1) := by decide +kernel
theorem dX0_init_60 : decode cX0_init 60 = .ok (.bipush 20, 2) := by decide +kernel
theorem dX0_init_62 : decode cX0_init 62 = .ok (.newarray .int, 2) := by decide +kernel
theorem dX0_init_64 : decode cX0_init 64 = .ok (.putfield 37, 3) := by decide +kernel
theorem dX0_init_67 : decode cX0_init 67 = .ok (.aload_n 0, 1) := by decide +kernel
theorem dX0_init_68 : decode cX0_init 68 = .ok (.bipush 20, 2) := by decide +kernel
theorem dX0_init_70 : decode cX0_init 70 = .ok (.newarray .int, 2) := by decide +kernel
theorem dX0_init_72 : decode cX0_init 72 = .ok (.putfield 40, 3) := by decide +kernel
theorem dX0_init_75 : decode cX0_init 75 = .ok (.aload_n 0, 1) := by decide +kernel
theorem dX0_init_76 : decode cX0_init 76 = .ok (.bipush 20, 2) := by decide +kernel
theorem dX0_init_78 : decode cX0_init 78 = .ok (.newarray .int, 2) := by decide +kernel
theorem dX0_init_80 : decode cX0_init 80 = .ok (.putfield 43, 3) := by decide +kernel
theorem dX0_init_83 : decode cX0_init 83 = .ok (.aload_n 0, 1) := by decide +kernel
theorem dX0_init_84 : decode cX0_init 84 = .ok (.bipush 20, 2) := by decide +kernel
theorem dX0_init_86 : decode cX0_init 86 = .ok (.newarray .int, 2) := by decide +kernel
theorem dX0_init_88 : decode cX0_init 88 = .ok (.putfield 46, 3) := by decide +kernel
theorem dX0_init_91 : decode cX0_init 91 = .ok (.aload_n 0, 1) := by decide +kernel
theorem dX0_init_92 : decode cX0_init 92 = .ok (.bipush 20, 2) := by decide +kernel
theorem dX0_init_94 : decode cX0_init 94 = .ok (.newarray .int, 2) := by decide +kernel
theorem dX0_init_96 : decode cX0_init 96 = .ok (.putfield 49, 3) := by decide +kernel
theorem dX0_init_99 : decode cX0_init 99 = .ok (.aload_n 0, 1) := by decide +kernel
theorem dX0_init_100 : decode cX0_init 100 = .ok (.iconst 0, 1) := by decide +kernel
theorem dX0_init_101 : decode cX0_init 101 = .ok (.putfield 52, 3) := by decide +kernel
theorem dX0_init_104 : decode cX0_init 104 = .ok (.aload_n 0, 1) := by decide +kernel
theorem dX0_init_105 : decode cX0_init 105 = .ok (.bipush 30, 2) := by decide +kernel
theorem dX0_init_107 : decode cX0_init 107 = .ok (.newarray .int, 2) := by decide +kernel
theorem dX0_init_109 : decode cX0_init 109 = .ok (.putfield 55, 3) := by decide +kernel
theorem dX0_init_112 : decode cX0_init 112 = .ok (.aload_n 0, 1) := by decide +kernel
theorem dX0_init_113 : decode cX0_init 113 = .ok (.bipush 30, 2) := by decide +kernel
theorem dX0_init_115 : decode cX0_init 115 = .ok (.newarray .int, 2) := by decide +kernel
theorem dX0_init_117 : decode cX0_init 117 = .ok (.putfield 58, 3) := by decide +kernel
theorem dX0_init_120 : decode cX0_init 120 = .ok (.aload_n 0, 1) := by decide +kernel
theorem dX0_init_121 : decode cX0_init 121 = .ok (.bipush 20, 2) := by decide +kernel
theorem dX0_init_123 : decode cX0_init 123 = .ok (.newarray .int, 2) := by decide +kernel
theorem dX0_init_125 : decode cX0_init 125 = .ok (.putfield 61, 3) := by decide +kernel
theorem dX0_init_128 : decode cX0_init 128 = .ok (.aload_n 0, 1) := by decide +kernel
theorem dX0_init_129 : decode cX0_init 129 = .ok (.new 64, 3) := by decide +kernel
theorem dX0_init_132 : decode cX0_init 132 = .ok (.dup, 1) := by decide +kernel
theorem dX0_init_133 : decode cX0_init 133 = .ok (.invokespecial 66, 3) := by decide +kernel
theorem dX0_init_136 : decode cX0_init 136 = .ok (.putfield 67, 3) := by decide +kernel
theorem dX0_init_139 : decode cX0_init 139 = .ok (.aload_n 0, 1) := by decide +kernel
theorem dX0_init_140 : decode cX0_init 140 = .ok (.getfield 15, 3) := by decide +kernel
theorem dX0_init_143 : decode cX0_init 143 = .ok (.iconst 0, 1) := by decide +kernel
theorem dX0_init_144 : decode cX0_init 144 = .ok (.iconst (-1), 1) := by decide +kernel
theorem dX0_init_145 : decode cX0_init 145 = .ok (.iastore, 1) := by decide +kernel
theorem dX0_init_146 : decode cX0_init 146 = .ok (.return_, 1) := by decide +kernel
theorem dX0_reset_0 : decode cX0_reset 0 = .ok (.aload_n 0, 1) := by decide +kernel
theorem dX0_reset_1 : decode cX0_reset 1 = .ok (.iconst 1, 1) := by decide +kernel
theorem dX0_reset_2 : decode cX0_reset 2 = .ok (.putfield 9, 3) := by decide +kernel
theorem dX0_reset_5 : decode cX0_reset 5 = .ok (.aload_n 0, 1) := by decide +kernel
theorem dX0_reset_6 : decode cX0_reset 6 = .ok (.iconst 0, 1) := by decide +kernel
theorem dX0_reset_7 : decode cX0_reset 7 = .ok (.putfield 19, 3) := by decide +kernel
theorem dX0_reset_10 : decode cX0_reset 10 = .ok (.aload_n 0, 1) := by decide +kernel
theorem dX0_reset_11 : decode cX0_reset 11 = .ok (.iconst 0, 1) := by decide +kernel
theorem dX0_reset_12 : decode cX0_reset 12 = .ok (.putfield 31, 3) := by decide +kernel
theorem dX0_reset_15 : decode cX0_reset 15 = .ok (.aload_n 0, 1) := by decide +kernel
theorem dX0_reset_16 : decode cX0_reset 16 = .ok (.iconst 0, 1) := by decide +kernel
theorem dX0_reset_17 : decode cX0_reset 17 = .ok (.putfield 52, 3) := by decide +kernel
theorem dX0_reset_20 : decode cX0_reset 20 = .ok (.return_, 1) := by decide +kernel
theorem dX0_copyFrom_0 : decode cX0_copyFrom 0 = .ok (.aload_n 0, 1) := by decide +kernel
theorem dX0_copyFrom_1 : decode cX0_copyFrom 1 = .ok (.aload_n 1, 1) := by decide +kernel
theorem dX0_copyFrom_2 : decode cX0_copyFrom 2 = .ok (.getfield 9, 3) := by decide +kernel
theorem dX0_copyFrom_5 : decode cX0_copyFrom 5 = .ok (.putfield 9, 3) := by decide +kernel
theorem dX0_copyFrom_8 : decode cX0_copyFrom 8 = .ok (.aload_n 1, 1) := by decide +kernel
theorem dX0_copyFrom_9 : decode cX0_copyFrom 9 = .ok (.getfield 15, 3) := by decide +kernel
theorem dX0_copyFrom_12 : decode cX0_copyFrom 12 = .ok (.iconst 0, 1) := by decide +kernel
theorem dX0_copyFrom_13 : decode cX0_copyFrom 13 = .ok (.aload_n 0, 1) := by decide +kernel
theorem dX0_copyFrom_14 : decode cX0_copyFrom 14 = .ok (.getfield 15, 3) := by decide +kernel
theorem dX0_copyFrom_17 : decode cX0_copyFrom 17 = .ok (.iconst 0, 1) := by decide +kernel
theorem dX0_copyFrom_18 : decode cX0_copyFrom 18 = .ok (.aload_n 0, 1) := by decide +kernel
theorem dX0_copyFrom_19 : decode cX0_copyFrom 19 = .ok (.getfield 9, 3) := by decide +kernel
theorem dX0_copyFrom_22 : decode cX0_copyFrom 22 = .ok (.invokestatic 71, 3) := by decide +kernel
theorem dX0_copyFrom_25 : decode cX0_copyFrom 25 = .ok (.aload_n 0, 1) := by decide +kernel
theorem dX0_copyFrom_26 : decode cX0_copyFrom 26 = .ok (.aload_n 1, 1) := by decide +kernel
theorem dX0_copyFrom_27 : decode cX0_copyFrom 27 = .ok (.getfield 19, 3) := by decide +kernel
theorem dX0_copyFrom_30 : decode cX0_copyFrom 30 = .ok (.putfield 19, 3) := by decide +kernel
theorem dX0_copyFrom_33 : decode cX0_copyFrom 33 = .ok (.aload_n 1, 1) := by decide +kernel
theorem dX0_copyFrom_34 : decode cX0_copyFrom 34 = .ok (.getfield 22, 3) := by decide +kernel
theorem dX0_copyFrom_37 : decode cX0_copyFrom 37 = .ok (.iconst 0, 1) := by decide +kernel
theorem dX0_copyFrom_38 : decode cX0_copyFrom 38 = .ok (.aload_n 0, 1) := by decide +kernel
theorem dX0_copyFrom_39 : decode cX0_copyFrom 39 = .ok (.getfield 22, 3) := by decide +kernel
theorem dX0_copyFrom_42 : decode cX0_copyFrom 42 = .ok (.iconst 0, 1) := by decide +kernel
theorem dX0_copyFrom_43 : decode cX0_copyFrom 43 = .ok (.aload_n 0, 1) := by decide +kernel
theorem dX0_copyFrom_44 : decode cX0_copyFrom 44 = .ok (.getfield 19, 3) := by decide +kernel
theorem dX0_copyFrom_47 : decode cX0_copyFrom 47 = .ok (.invokestatic 71, 3) := by decide +kernel
theorem dX0_copyFrom_50 : decode cX0_copyFrom 50 = .ok (.aload_n 1, 1) := by decide +kernel
theorem dX0_copyFrom_51 : decode cX0_copyFrom 51 = .ok (.getfield 25, 3) := by decide +kernel
theorem dX0_copyFrom_54 : decode cX0_copyFrom 54 = .ok (.iconst 0, 1) := by decide +kernel
theorem dX0_copyFrom_55 : decode cX0_copyFrom 55 = .ok (.aload_n 0, 1) := by decide +kernel
theorem dX0_copyFrom_56 : decode cX0_copyFrom 56 = .ok (.getfield 25, 3) := by decide +kernel
theorem dX0_copyFrom_59 : decode cX0_copyFrom 59 = .ok (.iconst 0, 1) := by decide +kernel
theorem dX0_copyFrom_60 : decode cX0_copyFrom 60 = .ok (.aload_n 0, 1) := by decide +kernel
theorem dX0_copyFrom_61 : decode cX0_copyFrom 61 = .ok (.getfield 19, 3) := by decide +kernel
theorem dX0_copyFrom_64 : decode cX0_copyFrom 64 = .ok (.invokestatic 71, 3) := by decide +kernel
theorem dX0_copyFrom_67 : decode cX0_copyFrom 67 = .ok (.aload_n 1, 1) := by decide +kernel
theorem dX0_copyFrom_68 : decode cX0_copyFrom 68 = .ok (.getfield 28, 3) := by decide +kernel
theorem dX0_copyFrom_71 : decode cX0_copyFrom 71 = .ok (.iconst 0, 1) := by decide +kernel
theorem dX0_copyFrom_72 : decode cX0_copyFrom 72 = .ok (.aload_n 0, 1) := by decide +kernel
theorem dX0_copyFrom_73 : decode cX0_copyFrom 73 = .ok (.getfield 28, 3) := by decide +kernel
theorem dX0_copyFrom_76 : decode cX0_copyFrom 76 = .ok (.iconst 0, 1) := by decide +kernel
theorem dX0_copyFrom_77 : decode cX0_copyFrom 77 = .ok (.aload_n 0, 1) := by decide +kernel
theorem dX0_copyFrom_78 : decode cX0_copyFrom 78 = .ok (.getfield 19, 3) := by decide +kernel
theorem dX0_copyFrom_81 : decode cX0_copyFrom 81 = .ok (.invokestatic 71, 3) := by decide +kernel
theorem dX0_copyFrom_84 : decode cX0_copyFrom 84 = .ok (.aload_n 0, 1) := by decide +kernel
theorem dX0_copyFrom_85 : decode cX0_copyFrom 85 = .ok (.aload_n 1, 1) := by decide +kernel
theorem dX0_copyFrom_86 : decode cX0_copyFrom 86 = .ok (.getfield 31, 3) := by decide +kernel
theorem dX0_copyFrom_89 : decode cX0_copyFrom 89 = .ok (.putfield 31, 3) := by decide +kernel
theorem dX0_copyFrom_92 : decode cX0_copyFrom 92 = .ok (.aload_n 1, 1) := by decide +kernel
theorem dX0_copyFrom_93 : decode cX0_copyFrom 93 = .ok (.getfield 34, 3) := by decide +kernel
theorem dX0_copyFrom_96 : decode cX0_copyFrom 96 = .ok (.iconst 0, 1) := by decide +kernel
theorem dX0_copyFrom_97 : decode cX0_copyFrom 97 = .ok (.aload_n 0, 1) := by decide +kernel
theorem dX0_copyFrom_98 : decode cX0_copyFrom 98 = .ok (.getfield 34, 3) := by decide +kernel
theorem dX0_copyFrom_101 : decode cX0_copyFrom 101 = .ok (.iconst 0, 1) := by decide +kernel
theorem dX0_copyFrom_102 : decode cX0_copyFrom 102 = .ok (.aload_n 0, 1) := by decide +kernel
theorem dX0_copyFrom_103 : decode cX0_copyFrom 103 = .ok (.getfield 31, 3) := by decide +kernel
theorem dX0_copyFrom_106 : decode cX0_copyFrom 106 = .ok (.invokestatic 71, 3) := by decide +kernel
theorem dX0_copyFrom_109 : decode cX0_copyFrom 109 = .ok (.aload_n 1, 1) := by decide +kernel
theorem dX0_copyFrom_110 : decode cX0_copyFrom 110 = .ok (.getfield 37, 3) := by decide +kernel
theorem dX0_copyFrom_113 : decode cX0_copyFrom 113 = .ok (.iconst 0, 1) := by decide +kernel
theorem dX0_copyFrom_114 : decode cX0_copyFrom 114 = .ok (.aload_n 0, 1) := by decide +kernel
theorem dX0_copyFrom_115 : decode cX0_copyFrom 115 = .ok (.getfield 37, 3) := by decide +kernel
theorem dX0_copyFrom_118 : decode cX0_copyFrom 118 = .ok (.iconst 0, 1) := by decide +kernel
theorem dX0_copyFrom_119 : decode cX0_copyFrom 119 = .ok (.aload_n 0, 1) := by decide +kernel
theorem dX0_copyFrom_120 : decode cX0_copyFrom 120 = .ok (.getfield 31, 3) := by decide +kernel
theorem dX0_copyFrom_123 : decode cX0_copyFrom 123 = .ok (.invokestatic 71, 3) := by decide +kernel
theorem dX0_copyFrom_126 : decode cX0_copyFrom 126 = .ok (.aload_n 1, 1) := by decide +kernel
theorem dX0_copyFrom_127 : decode cX0_copyFrom 127 = .ok (.getfield 40, 3) := by decide +kernel
theorem dX0_copyFrom_130 : decode cX0_copyFrom 130 = .ok (.iconst 0, 1) := by decide +kernel
theorem dX0_copyFrom_131 : decode cX0_copyFrom 131 = .ok (.aload_n 0, 1) := by decide +kernel
theorem dX0_copyFrom_132 : decode cX0_copyFrom 132 = .ok (.getfield 40, 3) := by decide +kernel
theorem dX0_copyFrom_135 : decode cX0_copyFrom 135 = .ok (.iconst 0, 1) := by decide +kernel
theorem dX0_copyFrom_136 : decode cX0_copyFrom 136 = .ok (.aload_n 0, 1) := by decide +kernel
theorem dX0_copyFrom_137 : decode cX0_copyFrom 137 = .ok (.getfield 31, 3) := by decide +kernel
theorem dX0_copyFrom_140 : decode cX0_copyFrom 140 = .ok (.invokestatic 71, 3) := by decide +kernel
theorem dX0_copyFrom_143 : decode cX0_copyFrom 143 = .ok (.aload_n 1, 1) := by decide +kernel
theorem dX0_copyFrom_144 : decode cX0_copyFrom 144 = .ok (.getfield 43, 3) := by decide +kernel
theorem dX0_copyFrom_147 : decode cX0_copyFrom 147 = .ok (.iconst 0, 1) := by decide +kernel
theorem dX0_copyFrom_148 : decode cX0_copyFrom 148 = .ok (.aload_n 0, 1) := by decide +kernel
theorem dX0_copyFrom_149 : decode cX0_copyFrom 149 = .ok (.getfield 43, 3) := by decide +kernel
theorem dX0_copyFrom_152 : decode cX0_copyFrom 152 = .ok (.iconst 0, 1) := by decide +kernel
theorem dX0_copyFrom_153 : decode cX0_copyFrom 153 = .ok (.aload_n 0, 1) := by decide +kernel
theorem dX0_copyFrom_154 : decode cX0_copyFrom 154 = .ok (.getfield 31, 3) := by decide +kernel
theorem dX0_copyFrom_157 : decode cX0_copyFrom 157 = .ok (.invokestatic 71, 3) := by decide +kernel
theorem dX0_copyFrom_160 : decode cX0_copyFrom 160 = .ok (.aload_n 1, 1) := by decide +kernel
theorem dX0_copyFrom_161 : decode cX0_copyFrom 161 = .ok (.getfield 46, 3) := by decide +kernel
theorem dX0_copyFrom_164 : decode cX0_copyFrom 164 = .ok (.iconst 0, 1) := by decide +kernel
theorem dX0_copyFrom_165 : decode cX0_copyFrom 165 = .ok (.aload_n 0, 1) := by decide +kernel
theorem dX0_copyFrom_166 : decode cX0_copyFrom 166 = .ok (.getfield 46, 3) := by decide +kernel
theorem dX0_copyFrom_169 : decode cX0_copyFrom 169 = .ok (.iconst 0, 1) := by decide +kernel
theorem dX0_copyFrom_170 : decode cX0_copyFrom 170 = .ok (.aload_n 0, 1) := by decide +kernel
theorem dX0_copyFrom_171 : decode cX0_copyFrom 171 = .ok (.getfield 31, 3) := by decide +kernel
theorem dX0_copyFrom_174 : decode cX0_copyFrom 174 = .ok (.invokestatic 71, 3) := by decide +kernel
theorem dX0_copyFrom_177 : decode cX0_copyFrom 177 = .ok (.aload_n 1, 1) := by decide +kernel
theorem dX0_copyFrom_178 : decode cX0_copyFrom 178 = .ok (.getfield 49, 3) := by decide +kernel
theorem dX0_copyFrom_181 : decode cX0_copyFrom 181 = .ok (.iconst 0, 1) := by decide +kernel
theorem dX0_copyFrom_182 : decode cX0_copyFrom 182 = .ok (.aload_n 0, 1) := by decide +kernel
theorem dX0_copyFrom_183 : decode cX0_copyFrom 183 = .ok (.getfield 49, 3) := by decide +kernel
theorem dX0_copyFrom_186 : decode cX0_copyFrom 186 = .ok (.iconst 0, 1) := by decide +kernel
theorem dX0_copyFrom_187 : decode cX0_copyFrom 187 = .ok (.aload_n 0, 1) := by decide +kernel
theorem dX0_copyFrom_188 : decode cX0_copyFrom 188 = .ok (.getfield 31, 3) := by decide +kernel
theorem dX0_copyFrom_191 : decode cX0_copyFrom 191 = .ok (.invokestatic 71, 3) := by decide +kernel
theorem dX0_copyFrom_194 : decode cX0_copyFrom 194 = .ok (.aload_n 0, 1) := by decide +kernel
theorem dX0_copyFrom_195 : decode cX0_copyFrom 195 = .ok (.aload_n 1, 1) := by decide +kernel
theorem dX0_copyFrom_196 : decode cX0_copyFrom 196 = .ok (.getfield 52, 3) := by decide +kernel
theorem dX0_copyFrom_199 : decode cX0_copyFrom 199 = .ok (.putfield 52, 3) := by decide +kernel
theorem dX0_copyFrom_202 : decode cX0_copyFrom 202 = .ok (.aload_n 1, 1) := by decide +kernel
theorem dX0_copyFrom_203 : decode cX0_copyFrom 203 = .ok (.getfield 55, 3) := by decide +kernel
theorem dX0_copyFrom_206 : decode cX0_copyFrom 206 = .ok (.iconst 0, 1) := by decide +kernel
theorem dX0_copyFrom_207 : decode cX0_copyFrom 207 = .ok (.aload_n 0, 1) := by decide +kernel
theorem dX0_copyFrom_208 : decode cX0_copyFrom 208 = .ok (.getfield 55, 3) := by decide +kernel
theorem dX0_copyFrom_211 : decode cX0_copyFrom 211 = .ok (.iconst 0, 1) := by decide +kernel
theorem dX0_copyFrom_212 : decode cX0_copyFrom 212 = .ok (.aload_n 0, 1) := by decide +kernel
theorem dX0_copyFrom_213 : decode cX0_copyFrom 213 = .ok (.getfield 52, 3) := by decide +kernel
theorem dX0_copyFrom_216 : decode cX0_copyFrom 216 = .ok (.invokestatic 71, 3) := by decide +kernel
theorem dX0_copyFrom_219 : decode cX0_copyFrom 219 = .ok (.aload_n 1, 1) := by decide +kernel
theorem dX0_copyFrom_220 : decode cX0_copyFrom 220 = .ok (.getfield 58, 3) := by decide +kernel
theorem dX0_copyFrom_223 : decode cX0_copyFrom 223 = .ok (.iconst 0, 1) := by decide +kernel
theorem dX0_copyFrom_224 : decode cX0_copyFrom 224 = .ok (.aload_n 0, 1) := by decide +kernel
theorem dX0_copyFrom_225 : decode cX0_copyFrom 225 = .ok (.getfield 58, 3) := by decide +kernel
theorem dX0_copyFrom_228 : decode cX0_copyFrom 228 = .ok (.iconst 0, 1) := by decide +kernel
theorem dX0_copyFrom_229 : decode cX0_copyFrom 229 = .ok (.aload_n 0, 1) := by decide +kernel
theorem dX0_copyFrom_230 : decode cX0_copyFrom 230 = .ok (.getfield 52, 3) := by decide +kernel
theorem dX0_copyFrom_233 : decode cX0_copyFrom 233 = .ok (.invokestatic 71, 3) := by decide +kernel
theorem dX0_copyFrom_236 : decode cX0_copyFrom 236 = .ok (.return_, 1) := by decide +kernel
theorem dX0_settle_0 : decode cX0_settle 0 = .ok (.aload_n 0, 1) := by decide +kernel
theorem dX0_settle_1 : decode cX0_settle 1 = .ok (.getfield 61, 3) := by decide +kernel
theorem dX0_settle_4 : decode cX0_settle 4 = .ok (.iconst (-1), 1) := by decide +kernel
theorem dX0_settle_5 : decode cX0_settle 5 = .ok (.invokestatic 77, 3) := by decide +kernel
theorem dX0_settle_8 : decode cX0_settle 8 = .ok (.aload_n 0, 1) := by decide +kernel
theorem dX0_settle_9 : decode cX0_settle 9 = .ok (.getfield 67, 3) := by decide +kernel
theorem dX0_settle_12 : decode cX0_settle 12 = .ok (.invokevirtual 83, 3) := by decide +kernel
theorem dX0_settle_15 : decode cX0_settle 15 = .ok (.aload_n 0, 1) := by decide +kernel
theorem dX0_settle_16 : decode cX0_settle 16 = .ok (.getfield 67, 3) := by decide +kernel
theorem dX0_settle_19 : decode cX0_settle 19 = .ok (.aload_n 0, 1) := by decide +kernel
theorem dX0_settle_20 : decode cX0_settle 20 = .ok (.invokevirtual 86, 3) := by decide +kernel
theorem dX0_settle_23 : decode cX0_settle 23 = .ok (.aload_n 0, 1) := by decide +kernel
theorem dX0_settle_24 : decode cX0_settle 24 = .ok (.getfield 67, 3) := by decide +kernel
theorem dX0_settle_27 : decode cX0_settle 27 = .ok (.aload_n 0, 1) := by decide +kernel
theorem dX0_settle_28 : decode cX0_settle 28 = .ok (.invokevirtual 90, 3) := by decide +kernel
theorem dX0_settle_31 : decode cX0_settle 31 = .ok (.aload_n 0, 1) := by decide +kernel
theorem dX0_settle_32 : decode cX0_settle 32 = .ok (.getfield 67, 3) := by decide +kernel
theorem dX0_settle_35 : decode cX0_settle 35 = .ok (.aload_n 0, 1) := by decide +kernel
theorem dX0_settle_36 : decode cX0_settle 36 = .ok (.invokevirtual 93, 3) := by decide +kernel
theorem dX0_settle_39 : decode cX0_settle 39 = .ok (.return_, 1) := by decide +kernel
theorem dX0_hasScope_0 : decode cX0_hasScope 0 = .ok (.iload_n 1, 1) := by decide +kernel
theorem dX0_hasScope_1 : decode cX0_hasScope 1 = .ok (.ifCond .lt 15, 3) := by decide +kernel
theorem dX0_hasScope_4 : decode cX0_hasScope 4 = .ok (.iload_n 1, 1) := by decide +kernel
theorem dX0_hasScope_5 : decode cX0_hasScope 5 = .ok (.aload_n 0, 1) := by decide +kernel
theorem dX0_hasScope_6 : decode cX0_hasScope 6 = .ok (.getfield 9, 3) := by decide +kernel
theorem dX0_hasScope_9 : decode cX0_hasScope 9 = .ok (.if_icmp .ge 7, 3) := by decide +kernel
theorem dX0_hasScope_12 : decode cX0_hasScope 12 = .ok (.iconst 1, 1) := by decide +kernel
theorem dX0_hasScope_13 : decode cX0_hasScope 13 = .ok (.goto 4, 3) := by decide +kernel
theorem dX0_hasScope_16 : decode cX0_hasScope 16 = .ok (.iconst 0, 1) := by decide +kernel
theorem dX0_hasScope_17 : decode cX0_hasScope 17 = .ok (.ireturn, 1) := by decide +kernel
theorem dX0_refusalOfScope_0 : decode cX0_refusalOfScope 0 = .ok (.aload_n 0, 1) := by decide +kernel
theorem dX0_refusalOfScope_1 : decode cX0_refusalOfScope 1 = .ok (.iload_n 1, 1) := by decide +kernel
theorem dX0_refusalOfScope_2 : decode cX0_refusalOfScope 2 = .ok (.invokevirtual 96, 3) := by decide +kernel
theorem dX0_refusalOfScope_5 : decode cX0_refusalOfScope 5 = .ok (.ifCond .ne 5, 3) := by decide +kernel
theorem dX0_refusalOfScope_8 : decode cX0_refusalOfScope 8 = .ok (.iconst 1, 1) := by decide +kernel
theorem dX0_refusalOfScope_9 : decode cX0_refusalOfScope 9 = .ok (.ireturn, 1) := by decide +kernel
theorem dX0_refusalOfScope_10 : decode cX0_refusalOfScope 10 = .ok (.aload_n 0, 1) := by decide +kernel
theorem dX0_refusalOfScope_11 : decode cX0_refusalOfScope 11 = .ok (.getfield 9, 3) := by decide +kernel
theorem dX0_refusalOfScope_14 : decode cX0_refusalOfScope 14 = .ok (.bipush 16, 2) := by decide +kernel
theorem dX0_refusalOfScope_16 : decode cX0_refusalOfScope 16 = .ok (.if_icmp .lt 7, 3) := by decide +kernel
theorem dX0_refusalOfScope_19 : decode cX0_refusalOfScope 19 = .ok (.iconst 3, 1) := by decide +kernel
theorem dX0_refusalOfScope_20 : decode cX0_refusalOfScope 20 = .ok (.goto 4, 3) := by decide +kernel
theorem dX0_refusalOfScope_23 : decode cX0_refusalOfScope 23 = .ok (.iconst 0, 1) := by decide +kernel
theorem dX0_refusalOfScope_24 : decode cX0_refusalOfScope 24 = .ok (.ireturn, 1) := by decide +kernel
theorem dX0_putScope_0 : decode cX0_putScope 0 = .ok (.aload_n 0, 1) := by decide +kernel
theorem dX0_putScope_1 : decode cX0_putScope 1 = .ok (.getfield 15, 3) := by decide +kernel
theorem dX0_putScope_4 : decode cX0_putScope 4 = .ok (.aload_n 0, 1) := by decide +kernel
theorem dX0_putScope_5 : decode cX0_putScope 5 = .ok (.getfield 9, 3) := by decide +kernel
theorem dX0_putScope_8 : decode cX0_putScope 8 = .ok (.iload_n 1, 1) := by decide +kernel
theorem dX0_putScope_9 : decode cX0_putScope 9 = .ok (.iastore, 1) := by decide +kernel
theorem dX0_putScope_10 : decode cX0_putScope 10 = .ok (.aload_n 0, 1) := by decide +kernel
theorem dX0_putScope_11 : decode cX0_putScope 11 = .ok (.dup, 1) := by decide +kernel
theorem dX0_putScope_12 : decode cX0_putScope 12 = .ok (.getfield 9, 3) := by decide +kernel
theorem dX0_putScope_15 : decode cX0_putScope 15 = .ok (.dup_x1, 1) := by decide +kernel
theorem dX0_putScope_16 : decode cX0_putScope 16 = .ok (.iconst 1, 1) := by decide +kernel
theorem dX0_putScope_17 : decode cX0_putScope 17 = .ok (.iadd, 1) := by decide +kernel
theorem dX0_putScope_18 : decode cX0_putScope 18 = .ok (.putfield 9, 3) := by decide +kernel
theorem dX0_putScope_21 : decode cX0_putScope 21 = .ok (.ireturn, 1) := by decide +kernel
theorem dX0_refusalOfDeclaration_0 : decode cX0_refusalOfDeclaration 0 = .ok (.aload_n 0, 1) := by decide +kernel
theorem dX0_refusalOfDeclaration_1 : decode cX0_refusalOfDeclaration 1 = .ok (.iload_n 1, 1) := by decide +kernel
theorem dX0_refusalOfDeclaration_2 : decode cX0_refusalOfDeclaration 2 = .ok (.invokevirtual 96, 3) := by decide +kernel
theorem dX0_refusalOfDeclaration_5 : decode cX0_refusalOfDeclaration 5 = .ok (.ifCond .ne 5, 3) := by decide +kernel
theorem dX0_refusalOfDeclaration_8 : decode cX0_refusalOfDeclaration 8 = .ok (.iconst 1, 1) := by decide +kernel
theorem dX0_refusalOfDeclaration_9 : decode cX0_refusalOfDeclaration 9 = .ok (.ireturn, 1) := by decide +kernel
theorem dX0_refusalOfDeclaration_10 : decode cX0_refusalOfDeclaration 10 = .ok (.iload_n 2, 1) := by decide +kernel
theorem dX0_refusalOfDeclaration_11 : decode cX0_refusalOfDeclaration 11 = .ok (.invokestatic 100, 3) := by decide +kernel
theorem dX0_refusalOfDeclaration_14 : decode cX0_refusalOfDeclaration 14 = .ok (.ifCond .eq 12, 3) := by decide +kernel
theorem dX0_refusalOfDeclaration_17 : decode cX0_refusalOfDeclaration 17 = .ok (.aload_n 0, 1) := by decide +kernel
theorem dX0_refusalOfDeclaration_18 : decode cX0_refusalOfDeclaration 18 = .ok (.iload_n 1, 1) := by decide +kernel
theorem dX0_refusalOfDeclaration_19 : decode cX0_refusalOfDeclaration 19 = .ok (.iload_n 2, 1) := by decide +kernel
theorem dX0_refusalOfDeclaration_20 : decode cX0_refusalOfDeclaration 20 = .ok (.invokevirtual 103, 3) := by decide +kernel
theorem dX0_refusalOfDeclaration_23 : decode cX0_refusalOfDeclaration 23 = .ok (.ifCond .eq 5, 3) := by decide +kernel
theorem dX0_refusalOfDeclaration_26 : decode cX0_refusalOfDeclaration 26 = .ok (.iconst 2, 1) := by decide +kernel
theorem dX0_refusalOfDeclaration_27 : decode cX0_refusalOfDeclaration 27 = .ok (.ireturn, 1) := by decide +kernel
theorem dX0_refusalOfDeclaration_28 : decode cX0_refusalOfDeclaration 28 = .ok (.aload_n 0, 1) := by decide +kernel
theorem dX0_refusalOfDeclaration_29 : decode cX0_refusalOfDeclaration 29 = .ok (.getfield 19, 3) := by decide +kernel
theorem dX0_refusalOfDeclaration_32 : decode cX0_refusalOfDeclaration 32 = .ok (.bipush 30, 2) := by decide +kernel
theorem dX0_refusalOfDeclaration_34 : decode cX0_refusalOfDeclaration 34 = .ok (.if_icmp .lt 7, 3) := by decide +kernel
theorem dX0_refusalOfDeclaration_37 : decode cX0_refusalOfDeclaration 37 = .ok (.iconst 3, 1) := by decide +kernel
theorem dX0_refusalOfDeclaration_38 : decode cX0_refusalOfDeclaration 38 = .ok (.goto 4, 3) := by decide +kernel
theorem dX0_refusalOfDeclaration_41 : decode cX0_refusalOfDeclaration 41 = .ok (.iconst 0, 1) := by decide +kernel
theorem dX0_refusalOfDeclaration_42 : decode cX0_refusalOfDeclaration 42 = .ok (.ireturn, 1) := by decide +kernel
theorem dX0_declares_0 : decode cX0_declares 0 = .ok (.iconst 0, 1) := by decide +kernel
theorem dX0_declares_1 : decode cX0_declares 1 = .ok (.istore_n 3, 1) := by decide +kernel
theorem dX0_declares_2 : decode cX0_declares 2 = .ok (.iload_n 3, 1) := by decide +kernel
theorem dX0_declares_3 : decode cX0_declares 3 = .ok (.aload_n 0, 1) := by decide +kernel
theorem dX0_declares_4 : decode cX0_declares 4 = .ok (.getfield 19, 3) := by decide +kernel
theorem dX0_declares_7 : decode cX0_declares 7 = .ok (.if_icmp .ge 31, 3) := by decide +kernel
theorem dX0_declares_10 : decode cX0_declares 10 = .ok (.aload_n 0, 1) := by decide +kernel
theorem dX0_declares_11 : decode cX0_declares 11 = .ok (.getfield 22, 3) := by decide +kernel
theorem dX0_declares_14 : decode cX0_declares 14 = .ok (.iload_n 3, 1) := by decide +kernel
theorem dX0_declares_15 : decode cX0_declares 15 = .ok (.iaload, 1) := by decide +kernel
theorem dX0_declares_16 : decode cX0_declares 16 = .ok (.iload_n 1, 1) := by decide +kernel
theorem dX0_declares_17 : decode cX0_declares 17 = .ok (.if_icmp .ne 15, 3) := by decide +kernel
theorem dX0_declares_20 : decode cX0_declares 20 = .ok (.aload_n 0, 1) := by decide +kernel
theorem dX0_declares_21 : decode cX0_declares 21 = .ok (.getfield 25, 3) := by decide +kernel
theorem dX0_declares_24 : decode cX0_declares 24 = .ok (.iload_n 3, 1) := by decide +kernel
theorem dX0_declares_25 : decode cX0_declares 25 = .ok (.iaload, 1) := by decide +kernel
theorem dX0_declares_26 : decode cX0_declares 26 = .ok (.iload_n 2, 1) := by decide +kernel
theorem dX0_declares_27 : decode cX0_declares 27 = .ok (.if_icmp .ne 5, 3) := by decide +kernel
theorem dX0_declares_30 : decode cX0_declares 30 = .ok (.iconst 1, 1) := by decide +kernel
theorem dX0_declares_31 : decode cX0_declares 31 = .ok (.ireturn, 1) := by decide +kernel
theorem dX0_declares_32 : decode cX0_declares 32 = .ok (.iinc 3 1, 3) := by decide +kernel
theorem dX0_declares_35 : decode cX0_declares 35 = .ok (.goto (-33), 3) := by decide +kernel
theorem dX0_declares_38 : decode cX0_declares 38 = .ok (.iconst 0, 1) := by decide +kernel
theorem dX0_declares_39 : decode cX0_declares 39 = .ok (.ireturn, 1) := by decide +kernel
theorem dX0_putDeclaration_0 : decode cX0_putDeclaration 0 = .ok (.aload_n 0, 1) := by decide +kernel
theorem dX0_putDeclaration_1 : decode cX0_putDeclaration 1 = .ok (.getfield 22, 3) := by decide +kernel
theorem dX0_putDeclaration_4 : decode cX0_putDeclaration 4 = .ok (.aload_n 0, 1) := by decide +kernel
theorem dX0_putDeclaration_5 : decode cX0_putDeclaration 5 = .ok (.getfield 19, 3) := by decide +kernel
theorem dX0_putDeclaration_8 : decode cX0_putDeclaration 8 = .ok (.iload_n 1, 1) := by decide +kernel
theorem dX0_putDeclaration_9 : decode cX0_putDeclaration 9 = .ok (.iastore, 1) := by decide +kernel
theorem dX0_putDeclaration_10 : decode cX0_putDeclaration 10 = .ok (.aload_n 0, 1) := by decide +kernel
theorem dX0_putDeclaration_11 : decode cX0_putDeclaration 11 = .ok (.getfield 25, 3) := by decide +kernel
theorem dX0_putDeclaration_14 : decode cX0_putDeclaration 14 = .ok (.aload_n 0, 1) := by decide +kernel
theorem dX0_putDeclaration_15 : decode cX0_putDeclaration 15 = .ok (.getfield 19, 3) := by decide +kernel
theorem dX0_putDeclaration_18 : decode cX0_putDeclaration 18 = .ok (.iload_n 2, 1) := by decide +kernel
theorem dX0_putDeclaration_19 : decode cX0_putDeclaration 19 = .ok (.iastore, 1) := by decide +kernel
theorem dX0_putDeclaration_20 : decode cX0_putDeclaration 20 = .ok (.aload_n 0, 1) := by decide +kernel
theorem dX0_putDeclaration_21 : decode cX0_putDeclaration 21 = .ok (.getfield 28, 3) := by decide +kernel
theorem dX0_putDeclaration_24 : decode cX0_putDeclaration 24 = .ok (.aload_n 0, 1) := by decide +kernel
theorem dX0_putDeclaration_25 : decode cX0_putDeclaration 25 = .ok (.getfield 19, 3) := by decide +kernel
theorem dX0_putDeclaration_28 : decode cX0_putDeclaration 28 = .ok (.iload_n 3, 1) := by decide +kernel
theorem dX0_putDeclaration_29 : decode cX0_putDeclaration 29 = .ok (.iastore, 1) := by decide +kernel
theorem dX0_putDeclaration_30 : decode cX0_putDeclaration 30 = .ok (.aload_n 0, 1) := by decide +kernel
theorem dX0_putDeclaration_31 : decode cX0_putDeclaration 31 = .ok (.dup, 1) := by decide +kernel
theorem dX0_putDeclaration_32 : decode cX0_putDeclaration 32 = .ok (.getfield 19, 3) := by decide +kernel
theorem dX0_putDeclaration_35 : decode cX0_putDeclaration 35 = .ok (.dup_x1, 1) := by decide +kernel
theorem dX0_putDeclaration_36 : decode cX0_putDeclaration 36 = .ok (.iconst 1, 1) := by decide +kernel
theorem dX0_putDeclaration_37 : decode cX0_putDeclaration 37 = .ok (.iadd, 1) := by decide +kernel
theorem dX0_putDeclaration_38 : decode cX0_putDeclaration 38 = .ok (.putfield 19, 3) := by decide +kernel
theorem dX0_putDeclaration_41 : decode cX0_putDeclaration 41 = .ok (.ireturn, 1) := by decide +kernel
theorem dX0_refusalOfImport_0 : decode cX0_refusalOfImport 0 = .ok (.aload_n 0, 1) := by decide +kernel
theorem dX0_refusalOfImport_1 : decode cX0_refusalOfImport 1 = .ok (.iload_n 1, 1) := by decide +kernel
theorem dX0_refusalOfImport_2 : decode cX0_refusalOfImport 2 = .ok (.invokevirtual 96, 3) := by decide +kernel
theorem dX0_refusalOfImport_5 : decode cX0_refusalOfImport 5 = .ok (.ifCond .eq 11, 3) := by decide +kernel
theorem dX0_refusalOfImport_8 : decode cX0_refusalOfImport 8 = .ok (.aload_n 0, 1) := by decide +kernel
theorem dX0_refusalOfImport_9 : decode cX0_refusalOfImport 9 = .ok (.iload_n 2, 1) := by decide +kernel
theorem dX0_refusalOfImport_10 : decode cX0_refusalOfImport 10 = .ok (.invokevirtual 96, 3) := by decide +kernel
theorem dX0_refusalOfImport_13 : decode cX0_refusalOfImport 13 = .ok (.ifCond .ne 5, 3) := by decide +kernel
theorem dX0_refusalOfImport_16 : decode cX0_refusalOfImport 16 = .ok (.iconst 1, 1) := by decide +kernel
theorem dX0_refusalOfImport_17 : decode cX0_refusalOfImport 17 = .ok (.ireturn, 1) := by decide +kernel
theorem dX0_refusalOfImport_18 : decode cX0_refusalOfImport 18 = .ok (.iload_n 1, 1) := by decide +kernel
theorem dX0_refusalOfImport_19 : decode cX0_refusalOfImport 19 = .ok (.iload_n 2, 1) := by decide +kernel
theorem dX0_refusalOfImport_20 : decode cX0_refusalOfImport 20 = .ok (.if_icmp .eq 7, 3) := by decide +kernel
theorem dX0_refusalOfImport_23 : decode cX0_refusalOfImport 23 = .ok (.iload_n 3, 1) := by decide +kernel
theorem dX0_refusalOfImport_24 : decode cX0_refusalOfImport 24 = .ok (.ifCond .ne 5, 3) := by decide +kernel
theorem dX0_refusalOfImport_27 : decode cX0_refusalOfImport 27 = .ok (.iconst 2, 1) := by decide +kernel
theorem dX0_refusalOfImport_28 : decode cX0_refusalOfImport 28 = .ok (.ireturn, 1) := by decide +kernel
theorem dX0_refusalOfImport_29 : decode cX0_refusalOfImport 29 = .ok (.aload_n 0, 1) := by decide +kernel
theorem dX0_refusalOfImport_30 : decode cX0_refusalOfImport 30 = .ok (.getfield 31, 3) := by decide +kernel
theorem dX0_refusalOfImport_33 : decode cX0_refusalOfImport 33 = .ok (.bipush 20, 2) := by decide +kernel
theorem dX0_refusalOfImport_35 : decode cX0_refusalOfImport 35 = .ok (.if_icmp .lt 7, 3) := by decide +kernel
theorem dX0_refusalOfImport_38 : decode cX0_refusalOfImport 38 = .ok (.iconst 3, 1) := by decide +kernel
theorem dX0_refusalOfImport_39 : decode cX0_refusalOfImport 39 = .ok (.goto 4, 3) := by decide +kernel
theorem dX0_refusalOfImport_42 : decode cX0_refusalOfImport 42 = .ok (.iconst 0, 1) := by decide +kernel
theorem dX0_refusalOfImport_43 : decode cX0_refusalOfImport 43 = .ok (.ireturn, 1) := by decide +kernel
theorem dX0_putImport_0 : decode cX0_putImport 0 = .ok (.aload_n 0, 1) := by decide +kernel
theorem dX0_putImport_1 : decode cX0_putImport 1 = .ok (.getfield 34, 3) := by decide +kernel
theorem dX0_putImport_4 : decode cX0_putImport 4 = .ok (.aload_n 0, 1) := by decide +kernel
theorem dX0_putImport_5 : decode cX0_putImport 5 = .ok (.getfield 31, 3) := by decide +kernel
theorem dX0_putImport_8 : decode cX0_putImport 8 = .ok (.iload_n 1, 1) := by decide +kernel
theorem dX0_putImport_9 : decode cX0_putImport 9 = .ok (.iastore, 1) := by decide +kernel
theorem dX0_putImport_10 : decode cX0_putImport 10 = .ok (.aload_n 0, 1) := by decide +kernel
theorem dX0_putImport_11 : decode cX0_putImport 11 = .ok (.getfield 37, 3) := by decide +kernel
theorem dX0_putImport_14 : decode cX0_putImport 14 = .ok (.aload_n 0, 1) := by decide +kernel
theorem dX0_putImport_15 : decode cX0_putImport 15 = .ok (.getfield 31, 3) := by decide +kernel
theorem dX0_putImport_18 : decode cX0_putImport 18 = .ok (.iload_n 2, 1) := by decide +kernel
theorem dX0_putImport_19 : decode cX0_putImport 19 = .ok (.iastore, 1) := by decide +kernel
theorem dX0_putImport_20 : decode cX0_putImport 20 = .ok (.aload_n 0, 1) := by decide +kernel
theorem dX0_putImport_21 : decode cX0_putImport 21 = .ok (.getfield 40, 3) := by decide +kernel
theorem dX0_putImport_24 : decode cX0_putImport 24 = .ok (.aload_n 0, 1) := by decide +kernel
theorem dX0_putImport_25 : decode cX0_putImport 25 = .ok (.getfield 31, 3) := by decide +kernel
theorem dX0_putImport_28 : decode cX0_putImport 28 = .ok (.iload_n 3, 1) := by decide +kernel
theorem dX0_putImport_29 : decode cX0_putImport 29 = .ok (.iastore, 1) := by decide +kernel
theorem dX0_putImport_30 : decode cX0_putImport 30 = .ok (.aload_n 0, 1) := by decide +kernel
theorem dX0_putImport_31 : decode cX0_putImport 31 = .ok (.getfield 43, 3) := by decide +kernel
theorem dX0_putImport_34 : decode cX0_putImport 34 = .ok (.aload_n 0, 1) := by decide +kernel
theorem dX0_putImport_35 : decode cX0_putImport 35 = .ok (.getfield 31, 3) := by decide +kernel
theorem dX0_putImport_38 : decode cX0_putImport 38 = .ok (.iload 4, 2) := by decide +kernel
theorem dX0_putImport_40 : decode cX0_putImport 40 = .ok (.iastore, 1) := by decide +kernel
theorem dX0_putImport_41 : decode cX0_putImport 41 = .ok (.aload_n 0, 1) := by decide +kernel
theorem dX0_putImport_42 : decode cX0_putImport 42 = .ok (.getfield 46, 3) := by decide +kernel
theorem dX0_putImport_45 : decode cX0_putImport 45 = .ok (.aload_n 0, 1) := by decide +kernel
theorem dX0_putImport_46 : decode cX0_putImport 46 = .ok (.getfield 31, 3) := by decide +kernel
theorem dX0_putImport_49 : decode cX0_putImport 49 = .ok (.iload 5, 2) := by decide +kernel
theorem dX0_putImport_51 : decode cX0_putImport 51 = .ok (.iastore, 1) := by decide +kernel
theorem dX0_putImport_52 : decode cX0_putImport 52 = .ok (.aload_n 0, 1) := by decide +kernel
theorem dX0_putImport_53 : decode cX0_putImport 53 = .ok (.getfield 49, 3) := by decide +kernel
theorem dX0_putImport_56 : decode cX0_putImport 56 = .ok (.aload_n 0, 1) := by decide +kernel
theorem dX0_putImport_57 : decode cX0_putImport 57 = .ok (.getfield 31, 3) := by decide +kernel
theorem dX0_putImport_60 : decode cX0_putImport 60 = .ok (.iload 6, 2) := by decide +kernel
theorem dX0_putImport_62 : decode cX0_putImport 62 = .ok (.iastore, 1) := by decide +kernel
theorem dX0_putImport_63 : decode cX0_putImport 63 = .ok (.aload_n 0, 1) := by decide +kernel
theorem dX0_putImport_64 : decode cX0_putImport 64 = .ok (.dup, 1) := by decide +kernel
theorem dX0_putImport_65 : decode cX0_putImport 65 = .ok (.getfield 31, 3) := by decide +kernel
theorem dX0_putImport_68 : decode cX0_putImport 68 = .ok (.dup_x1, 1) := by decide +kernel
theorem dX0_putImport_69 : decode cX0_putImport 69 = .ok (.iconst 1, 1) := by decide +kernel
theorem dX0_putImport_70 : decode cX0_putImport 70 = .ok (.iadd, 1) := by decide +kernel
theorem dX0_putImport_71 : decode cX0_putImport 71 = .ok (.putfield 31, 3) := by decide +kernel
theorem dX0_putImport_74 : decode cX0_putImport 74 = .ok (.ireturn, 1) := by decide +kernel
theorem dX0_refusalOfUse_0 : decode cX0_refusalOfUse 0 = .ok (.aload_n 0, 1) := by decide +kernel
theorem dX0_refusalOfUse_1 : decode cX0_refusalOfUse 1 = .ok (.iload_n 1, 1) := by decide +kernel
theorem dX0_refusalOfUse_2 : decode cX0_refusalOfUse 2 = .ok (.invokevirtual 96, 3) := by decide +kernel
theorem dX0_refusalOfUse_5 : decode cX0_refusalOfUse 5 = .ok (.ifCond .ne 5, 3) := by decide +kernel
theorem dX0_refusalOfUse_8 : decode cX0_refusalOfUse 8 = .ok (.iconst 1, 1) := by decide +kernel
theorem dX0_refusalOfUse_9 : decode cX0_refusalOfUse 9 = .ok (.ireturn, 1) := by decide +kernel
theorem dX0_refusalOfUse_10 : decode cX0_refusalOfUse 10 = .ok (.iload_n 2, 1) := by decide +kernel
theorem dX0_refusalOfUse_11 : decode cX0_refusalOfUse 11 = .ok (.invokestatic 100, 3) := by decide +kernel
theorem dX0_refusalOfUse_14 : decode cX0_refusalOfUse 14 = .ok (.ifCond .ne 5, 3) := by decide +kernel
theorem dX0_refusalOfUse_17 : decode cX0_refusalOfUse 17 = .ok (.iconst 2, 1) := by decide +kernel
theorem dX0_refusalOfUse_18 : decode cX0_refusalOfUse 18 = .ok (.ireturn, 1) := by decide +kernel
theorem dX0_refusalOfUse_19 : decode cX0_refusalOfUse 19 = .ok (.aload_n 0, 1) := by decide +kernel
theorem dX0_refusalOfUse_20 : decode cX0_refusalOfUse 20 = .ok (.getfield 52, 3) := by decide +kernel
theorem dX0_refusalOfUse_23 : decode cX0_refusalOfUse 23 = .ok (.bipush 30, 2) := by decide +kernel
theorem dX0_refusalOfUse_25 : decode cX0_refusalOfUse 25 = .ok (.if_icmp .lt 7, 3) := by decide +kernel
theorem dX0_refusalOfUse_28 : decode cX0_refusalOfUse 28 = .ok (.iconst 3, 1) := by decide +kernel
theorem dX0_refusalOfUse_29 : decode cX0_refusalOfUse 29 = .ok (.goto 4, 3) := by decide +kernel
theorem dX0_refusalOfUse_32 : decode cX0_refusalOfUse 32 = .ok (.iconst 0, 1) := by decide +kernel
theorem dX0_refusalOfUse_33 : decode cX0_refusalOfUse 33 = .ok (.ireturn, 1) := by decide +kernel
theorem dX0_putUse_0 : decode cX0_putUse 0 = .ok (.aload_n 0, 1) := by decide +kernel
theorem dX0_putUse_1 : decode cX0_putUse 1 = .ok (.getfield 55, 3) := by decide +kernel
theorem dX0_putUse_4 : decode cX0_putUse 4 = .ok (.aload_n 0, 1) := by decide +kernel
theorem dX0_putUse_5 : decode cX0_putUse 5 = .ok (.getfield 52, 3) := by decide +kernel
theorem dX0_putUse_8 : decode cX0_putUse 8 = .ok (.iload_n 1, 1) := by decide +kernel
theorem dX0_putUse_9 : decode cX0_putUse 9 = .ok (.iastore, 1) := by decide +kernel
theorem dX0_putUse_10 : decode cX0_putUse 10 = .ok (.aload_n 0, 1) := by decide +kernel
theorem dX0_putUse_11 : decode cX0_putUse 11 = .ok (.getfield 58, 3) := by decide +kernel
theorem dX0_putUse_14 : decode cX0_putUse 14 = .ok (.aload_n 0, 1) := by decide +kernel
theorem dX0_putUse_15 : decode cX0_putUse 15 = .ok (.getfield 52, 3) := by decide +kernel
theorem dX0_putUse_18 : decode cX0_putUse 18 = .ok (.iload_n 2, 1) := by decide +kernel
theorem dX0_putUse_19 : decode cX0_putUse 19 = .ok (.iastore, 1) := by decide +kernel
theorem dX0_putUse_20 : decode cX0_putUse 20 = .ok (.aload_n 0, 1) := by decide +kernel
theorem dX0_putUse_21 : decode cX0_putUse 21 = .ok (.dup, 1) := by decide +kernel
theorem dX0_putUse_22 : decode cX0_putUse 22 = .ok (.getfield 52, 3) := by decide +kernel
theorem dX0_putUse_25 : decode cX0_putUse 25 = .ok (.dup_x1, 1) := by decide +kernel
theorem dX0_putUse_26 : decode cX0_putUse 26 = .ok (.iconst 1, 1) := by decide +kernel
theorem dX0_putUse_27 : decode cX0_putUse 27 = .ok (.iadd, 1) := by decide +kernel
theorem dX0_putUse_28 : decode cX0_putUse 28 = .ok (.putfield 52, 3) := by decide +kernel
theorem dX0_putUse_31 : decode cX0_putUse 31 = .ok (.ireturn, 1) := by decide +kernel
theorem dX0_closeGap_0 : decode cX0_closeGap 0 = .ok (.aload_n 0, 1) := by decide +kernel
theorem dX0_closeGap_1 : decode cX0_closeGap 1 = .ok (.iload_n 1, 1) := by decide +kernel
theorem dX0_closeGap_2 : decode cX0_closeGap 2 = .ok (.iconst 1, 1) := by decide +kernel
theorem dX0_closeGap_3 : decode cX0_closeGap 3 = .ok (.iadd, 1) := by decide +kernel
theorem dX0_closeGap_4 : decode cX0_closeGap 4 = .ok (.aload_n 0, 1) := by decide +kernel
theorem dX0_closeGap_5 : decode cX0_closeGap 5 = .ok (.iload_n 1, 1) := by decide +kernel
theorem dX0_closeGap_6 : decode cX0_closeGap 6 = .ok (.iload_n 2, 1) := by decide +kernel
theorem dX0_closeGap_7 : decode cX0_closeGap 7 = .ok (.iload_n 1, 1) := by decide +kernel
theorem dX0_closeGap_8 : decode cX0_closeGap 8 = .ok (.isub, 1) := by decide +kernel
theorem dX0_closeGap_9 : decode cX0_closeGap 9 = .ok (.iconst 1, 1) := by decide +kernel
theorem dX0_closeGap_10 : decode cX0_closeGap 10 = .ok (.isub, 1) := by decide +kernel
theorem dX0_closeGap_11 : decode cX0_closeGap 11 = .ok (.invokestatic 71, 3) := by decide +kernel
theorem dX0_closeGap_14 : decode cX0_closeGap 14 = .ok (.return_, 1) := by decide +kernel
theorem dX0_dropDeclaration_0 : decode cX0_dropDeclaration 0 = .ok (.aload_n 0, 1) := by decide +kernel
theorem dX0_dropDeclaration_1 : decode cX0_dropDeclaration 1 = .ok (.getfield 22, 3) := by decide +kernel
theorem dX0_dropDeclaration_4 : decode cX0_dropDeclaration 4 = .ok (.iload_n 1, 1) := by decide +kernel
theorem dX0_dropDeclaration_5 : decode cX0_dropDeclaration 5 = .ok (.aload_n 0, 1) := by decide +kernel
theorem dX0_dropDeclaration_6 : decode cX0_dropDeclaration 6 = .ok (.getfield 19, 3) := by decide +kernel
theorem dX0_dropDeclaration_9 : decode cX0_dropDeclaration 9 = .ok (.invokestatic 107, 3) := by decide +kernel
theorem dX0_dropDeclaration_12 : decode cX0_dropDeclaration 12 = .ok (.aload_n 0, 1) := by decide +kernel
theorem dX0_dropDeclaration_13 : decode cX0_dropDeclaration 13 = .ok (.getfield 25, 3) := by decide +kernel
theorem dX0_dropDeclaration_16 : decode cX0_dropDeclaration 16 = .ok (.iload_n 1, 1) := by decide +kernel
theorem dX0_dropDeclaration_17 : decode cX0_dropDeclaration 17 = .ok (.aload_n 0, 1) := by decide +kernel
theorem dX0_dropDeclaration_18 : decode cX0_dropDeclaration 18 = .ok (.getfield 19, 3) := by decide +kernel
theorem dX0_dropDeclaration_21 : decode cX0_dropDeclaration 21 = .ok (.invokestatic 107, 3) := by decide +kernel
theorem dX0_dropDeclaration_24 : decode cX0_dropDeclaration 24 = .ok (.aload_n 0, 1) := by decide +kernel
theorem dX0_dropDeclaration_25 : decode cX0_dropDeclaration 25 = .ok (.getfield 28, 3) := by decide +kernel
theorem dX0_dropDeclaration_28 : decode cX0_dropDeclaration 28 = .ok (.iload_n 1, 1) := by decide +kernel
theorem dX0_dropDeclaration_29 : decode cX0_dropDeclaration 29 = .ok (.aload_n 0, 1) := by decide +kernel
theorem dX0_dropDeclaration_30 : decode cX0_dropDeclaration 30 = .ok (.getfield 19, 3) := by decide +kernel
theorem dX0_dropDeclaration_33 : decode cX0_dropDeclaration 33 = .ok (.invokestatic 107, 3) := by decide +kernel
theorem dX0_dropDeclaration_36 : decode cX0_dropDeclaration 36 = .ok (.aload_n 0, 1) := by decide +kernel
theorem dX0_dropDeclaration_37 : decode cX0_dropDeclaration 37 = .ok (.dup, 1) := by decide +kernel
theorem dX0_dropDeclaration_38 : decode cX0_dropDeclaration 38 = .ok (.getfield 19, 3) := by decide +kernel
theorem dX0_dropDeclaration_41 : decode cX0_dropDeclaration 41 = .ok (.iconst 1, 1) := by decide +kernel
theorem dX0_dropDeclaration_42 : decode cX0_dropDeclaration 42 = .ok (.isub, 1) := by decide +kernel
theorem dX0_dropDeclaration_43 : decode cX0_dropDeclaration 43 = .ok (.putfield 19, 3) := by decide +kernel
theorem dX0_dropDeclaration_46 : decode cX0_dropDeclaration 46 = .ok (.return_, 1) := by decide +kernel
theorem dX0_dropImport_0 : decode cX0_dropImport 0 = .ok (.aload_n 0, 1) := by decide +kernel
theorem dX0_dropImport_1 : decode cX0_dropImport 1 = .ok (.getfield 34, 3) := by decide +kernel
theorem dX0_dropImport_4 : decode cX0_dropImport 4 = .ok (.iload_n 1, 1) := by decide +kernel
theorem dX0_dropImport_5 : decode cX0_dropImport 5 = .ok (.aload_n 0, 1) := by decide +kernel
theorem dX0_dropImport_6 : decode cX0_dropImport 6 = .ok (.getfield 31, 3) := by decide +kernel
theorem dX0_dropImport_9 : decode cX0_dropImport 9 = .ok (.invokestatic 107, 3) := by decide +kernel
theorem dX0_dropImport_12 : decode cX0_dropImport 12 = .ok (.aload_n 0, 1) := by decide +kernel
theorem dX0_dropImport_13 : decode cX0_dropImport 13 = .ok (.getfield 37, 3) := by decide +kernel
theorem dX0_dropImport_16 : decode cX0_dropImport 16 = .ok (.iload_n 1, 1) := by decide +kernel
theorem dX0_dropImport_17 : decode cX0_dropImport 17 = .ok (.aload_n 0, 1) := by decide +kernel
theorem dX0_dropImport_18 : decode cX0_dropImport 18 = .ok (.getfield 31, 3) := by decide +kernel
theorem dX0_dropImport_21 : decode cX0_dropImport 21 = .ok (.invokestatic 107, 3) := by decide +kernel
theorem dX0_dropImport_24 : decode cX0_dropImport 24 = .ok (.aload_n 0, 1) := by decide +kernel
theorem dX0_dropImport_25 : decode cX0_dropImport 25 = .ok (.getfield 40, 3) := by decide +kernel
theorem dX0_dropImport_28 : decode cX0_dropImport 28 = .ok (.iload_n 1, 1) := by decide +kernel
theorem dX0_dropImport_29 : decode cX0_dropImport 29 = .ok (.aload_n 0, 1) := by decide +kernel
theorem dX0_dropImport_30 : decode cX0_dropImport 30 = .ok (.getfield 31, 3) := by decide +kernel
theorem dX0_dropImport_33 : decode cX0_dropImport 33 = .ok (.invokestatic 107, 3) := by decide +kernel
theorem dX0_dropImport_36 : decode cX0_dropImport 36 = .ok (.aload_n 0, 1) := by decide +kernel
theorem dX0_dropImport_37 : decode cX0_dropImport 37 = .ok (.getfield 43, 3) := by decide +kernel
theorem dX0_dropImport_40 : decode cX0_dropImport 40 = .ok (.iload_n 1, 1) := by decide +kernel
theorem dX0_dropImport_41 : decode cX0_dropImport 41 = .ok (.aload_n 0, 1) := by decide +kernel
theorem dX0_dropImport_42 : decode cX0_dropImport 42 = .ok (.getfield 31, 3) := by decide +kernel
theorem dX0_dropImport_45 : decode cX0_dropImport 45 = .ok (.invokestatic 107, 3) := by decide +kernel
theorem dX0_dropImport_48 : decode cX0_dropImport 48 = .ok (.aload_n 0, 1) := by decide +kernel
theorem dX0_dropImport_49 : decode cX0_dropImport 49 = .ok (.getfield 46, 3) := by decide +kernel
theorem dX0_dropImport_52 : decode cX0_dropImport 52 = .ok (.iload_n 1, 1) := by decide +kernel
theorem dX0_dropImport_53 : decode cX0_dropImport 53 = .ok (.aload_n 0, 1) := by decide +kernel
theorem dX0_dropImport_54 : decode cX0_dropImport 54 = .ok (.getfield 31, 3) := by decide +kernel
theorem dX0_dropImport_57 : decode cX0_dropImport 57 = .ok (.invokestatic 107, 3) := by decide +kernel
theorem dX0_dropImport_60 : decode cX0_dropImport 60 = .ok (.aload_n 0, 1) := by decide +kernel
theorem dX0_dropImport_61 : decode cX0_dropImport 61 = .ok (.getfield 49, 3) := by decide +kernel
theorem dX0_dropImport_64 : decode cX0_dropImport 64 = .ok (.iload_n 1, 1) := by decide +kernel
theorem dX0_dropImport_65 : decode cX0_dropImport 65 = .ok (.aload_n 0, 1) := by decide +kernel
theorem dX0_dropImport_66 : decode cX0_dropImport 66 = .ok (.getfield 31, 3) := by decide +kernel
theorem dX0_dropImport_69 : decode cX0_dropImport 69 = .ok (.invokestatic 107, 3) := by decide +kernel
theorem dX0_dropImport_72 : decode cX0_dropImport 72 = .ok (.aload_n 0, 1) := by decide +kernel
theorem dX0_dropImport_73 : decode cX0_dropImport 73 = .ok (.dup, 1) := by decide +kernel
theorem dX0_dropImport_74 : decode cX0_dropImport 74 = .ok (.getfield 31, 3) := by decide +kernel
theorem dX0_dropImport_77 : decode cX0_dropImport 77 = .ok (.iconst 1, 1) := by decide +kernel
theorem dX0_dropImport_78 : decode cX0_dropImport 78 = .ok (.isub, 1) := by decide +kernel
theorem dX0_dropImport_79 : decode cX0_dropImport 79 = .ok (.putfield 31, 3) := by decide +kernel
theorem dX0_dropImport_82 : decode cX0_dropImport 82 = .ok (.return_, 1) := by decide +kernel
theorem dX0_dropUse_0 : decode cX0_dropUse 0 = .ok (.aload_n 0, 1) := by decide +kernel
theorem dX0_dropUse_1 : decode cX0_dropUse 1 = .ok (.getfield 55, 3) := by decide +kernel
theorem dX0_dropUse_4 : decode cX0_dropUse 4 = .ok (.iload_n 1, 1) := by decide +kernel
theorem dX0_dropUse_5 : decode cX0_dropUse 5 = .ok (.aload_n 0, 1) := by decide +kernel
theorem dX0_dropUse_6 : decode cX0_dropUse 6 = .ok (.getfield 52, 3) := by decide +kernel
theorem dX0_dropUse_9 : decode cX0_dropUse 9 = .ok (.invokestatic 107, 3) := by decide +kernel
theorem dX0_dropUse_12 : decode cX0_dropUse 12 = .ok (.aload_n 0, 1) := by decide +kernel
theorem dX0_dropUse_13 : decode cX0_dropUse 13 = .ok (.getfield 58, 3) := by decide +kernel
theorem dX0_dropUse_16 : decode cX0_dropUse 16 = .ok (.iload_n 1, 1) := by decide +kernel
theorem dX0_dropUse_17 : decode cX0_dropUse 17 = .ok (.aload_n 0, 1) := by decide +kernel
theorem dX0_dropUse_18 : decode cX0_dropUse 18 = .ok (.getfield 52, 3) := by decide +kernel
theorem dX0_dropUse_21 : decode cX0_dropUse 21 = .ok (.invokestatic 107, 3) := by decide +kernel
theorem dX0_dropUse_24 : decode cX0_dropUse 24 = .ok (.aload_n 0, 1) := by decide +kernel
theorem dX0_dropUse_25 : decode cX0_dropUse 25 = .ok (.dup, 1) := by decide +kernel
theorem dX0_dropUse_26 : decode cX0_dropUse 26 = .ok (.getfield 52, 3) := by decide +kernel
theorem dX0_dropUse_29 : decode cX0_dropUse 29 = .ok (.iconst 1, 1) := by decide +kernel
theorem dX0_dropUse_30 : decode cX0_dropUse 30 = .ok (.isub, 1) := by decide +kernel
theorem dX0_dropUse_31 : decode cX0_dropUse 31 = .ok (.putfield 52, 3) := by decide +kernel
theorem dX0_dropUse_34 : decode cX0_dropUse 34 = .ok (.return_, 1) := by decide +kernel
theorem dX0_giveName_0 : decode cX0_giveName 0 = .ok (.aload_n 0, 1) := by decide +kernel
theorem dX0_giveName_1 : decode cX0_giveName 1 = .ok (.getfield 25, 3) := by decide +kernel
theorem dX0_giveName_4 : decode cX0_giveName 4 = .ok (.iload_n 1, 1) := by decide +kernel
theorem dX0_giveName_5 : decode cX0_giveName 5 = .ok (.iaload, 1) := by decide +kernel
theorem dX0_giveName_6 : decode cX0_giveName 6 = .ok (.istore 4, 2) := by decide +kernel
theorem dX0_giveName_8 : decode cX0_giveName 8 = .ok (.iconst 0, 1) := by decide +kernel
theorem dX0_giveName_9 : decode cX0_giveName 9 = .ok (.istore 5, 2) := by decide +kernel
theorem dX0_giveName_11 : decode cX0_giveName 11 = .ok (.iload 5, 2) := by decide +kernel
theorem dX0_giveName_13 : decode cX0_giveName 13 = .ok (.aload_n 0, 1) := by decide +kernel
theorem dX0_giveName_14 : decode cX0_giveName 14 = .ok (.getfield 31, 3) := by decide +kernel
theorem dX0_giveName_17 : decode cX0_giveName 17 = .ok (.if_icmp .ge 135, 3) := by decide +kernel
theorem dX0_giveName_20 : decode cX0_giveName 20 = .ok (.aload_n 3, 1) := by decide +kernel
theorem dX0_giveName_21 : decode cX0_giveName 21 = .ok (.getfield 67, 3) := by decide +kernel
theorem dX0_giveName_24 : decode cX0_giveName 24 = .ok (.getfield 111, 3) := by decide +kernel
theorem dX0_giveName_27 : decode cX0_giveName 27 = .ok (.aload_n 0, 1) := by decide +kernel
theorem dX0_giveName_28 : decode cX0_giveName 28 = .ok (.getfield 37, 3) := by decide +kernel
theorem dX0_giveName_31 : decode cX0_giveName 31 = .ok (.iload 5, 2) := by decide +kernel
theorem dX0_giveName_33 : decode cX0_giveName 33 = .ok (.iaload, 1) := by decide +kernel
theorem dX0_giveName_34 : decode cX0_giveName 34 = .ok (.bipush 26, 2) := by decide +kernel
theorem dX0_giveName_36 : decode cX0_giveName 36 = .ok (.imul, 1) := by decide +kernel
theorem dX0_giveName_37 : decode cX0_giveName 37 = .ok (.iload 4, 2) := by decide +kernel
theorem dX0_giveName_39 : decode cX0_giveName 39 = .ok (.iadd, 1) := by decide +kernel
theorem dX0_giveName_40 : decode cX0_giveName 40 = .ok (.iaload, 1) := by decide +kernel
theorem dX0_giveName_41 : decode cX0_giveName 41 = .ok (.iload_n 1, 1) := by decide +kernel
theorem dX0_giveName_42 : decode cX0_giveName 42 = .ok (.ishr, 1) := by decide +kernel
theorem dX0_giveName_43 : decode cX0_giveName 43 = .ok (.iconst 1, 1) := by decide +kernel
theorem dX0_giveName_44 : decode cX0_giveName 44 = .ok (.iand, 1) := by decide +kernel
theorem dX0_giveName_45 : decode cX0_giveName 45 = .ok (.ifCond .eq 7, 3) := by decide +kernel
theorem dX0_giveName_48 : decode cX0_giveName 48 = .ok (.iconst 1, 1) := by decide +kernel
theorem dX0_giveName_49 : decode cX0_giveName 49 = .ok (.goto 4, 3) := by decide +kernel
theorem dX0_giveName_52 : decode cX0_giveName 52 = .ok (.iconst 0, 1) := by decide +kernel
theorem dX0_giveName_53 : decode cX0_giveName 53 = .ok (.istore 6, 2) := by decide +kernel
theorem dX0_giveName_55 : decode cX0_giveName 55 = .ok (.iload 6, 2) := by decide +kernel
theorem dX0_giveName_57 : decode cX0_giveName 57 = .ok (.ifCond .eq 56, 3) := by decide +kernel
theorem dX0_giveName_60 : decode cX0_giveName 60 = .ok (.aload_n 0, 1) := by decide +kernel
theorem dX0_giveName_61 : decode cX0_giveName 61 = .ok (.getfield 40, 3) := by decide +kernel
theorem dX0_giveName_64 : decode cX0_giveName 64 = .ok (.iload 5, 2) := by decide +kernel
theorem dX0_giveName_66 : decode cX0_giveName 66 = .ok (.iaload, 1) := by decide +kernel
theorem dX0_giveName_67 : decode cX0_giveName 67 = .ok (.iload 4, 2) := by decide +kernel
theorem dX0_giveName_69 : decode cX0_giveName 69 = .ok (.if_icmp .ne 44, 3) := by decide +kernel
theorem dX0_giveName_72 : decode cX0_giveName 72 = .ok (.aload_n 0, 1) := by decide +kernel
theorem dX0_giveName_73 : decode cX0_giveName 73 = .ok (.getfield 40, 3) := by decide +kernel
theorem dX0_giveName_76 : decode cX0_giveName 76 = .ok (.iload 5, 2) := by decide +kernel
theorem dX0_giveName_78 : decode cX0_giveName 78 = .ok (.iload_n 2, 1) := by decide +kernel
theorem dX0_giveName_79 : decode cX0_giveName 79 = .ok (.iastore, 1) := by decide +kernel
theorem dX0_giveName_80 : decode cX0_giveName 80 = .ok (.aload_n 0, 1) := by decide +kernel
theorem dX0_giveName_81 : decode cX0_giveName 81 = .ok (.getfield 43, 3) := by decide +kernel
theorem dX0_giveName_84 : decode cX0_giveName 84 = .ok (.iload 5, 2) := by decide +kernel
theorem dX0_giveName_86 : decode cX0_giveName 86 = .ok (.aload_n 0, 1) := by decide +kernel
theorem dX0_giveName_87 : decode cX0_giveName 87 = .ok (.getfield 43, 3) := by decide +kernel
theorem dX0_giveName_90 : decode cX0_giveName 90 = .ok (.iload 5, 2) := by decide +kernel
theorem dX0_giveName_92 : decode cX0_giveName 92 = .ok (.iaload, 1) := by decide +kernel
theorem dX0_giveName_93 : decode cX0_giveName 93 = .ok (.iload 4, 2) := by decide +kernel
theorem dX0_giveName_95 : decode cX0_giveName 95 = .ok (.if_icmp .ne 7, 3) := by decide +kernel
theorem dX0_giveName_98 : decode cX0_giveName 98 = .ok (.iload_n 2, 1) := by decide +kernel
theorem dX0_giveName_99 : decode cX0_giveName 99 = .ok (.goto 10, 3) := by decide +kernel
theorem dX0_giveName_102 : decode cX0_giveName 102 = .ok (.aload_n 0, 1) := by decide +kernel
theorem dX0_giveName_103 : decode cX0_giveName 103 = .ok (.getfield 43, 3) := by decide +kernel
theorem dX0_giveName_106 : decode cX0_giveName 106 = .ok (.iload 5, 2) := by decide +kernel
theorem dX0_giveName_108 : decode cX0_giveName 108 = .ok (.iaload, 1) := by decide +kernel
theorem dX0_giveName_109 : decode cX0_giveName 109 = .ok (.iastore, 1) := by decide +kernel
theorem dX0_giveName_110 : decode cX0_giveName 110 = .ok (.goto 36, 3) := by decide +kernel
theorem dX0_giveName_113 : decode cX0_giveName 113 = .ok (.iload 6, 2) := by decide +kernel
theorem dX0_giveName_115 : decode cX0_giveName 115 = .ok (.ifCond .eq 31, 3) := by decide +kernel
theorem dX0_giveName_118 : decode cX0_giveName 118 = .ok (.aload_n 0, 1) := by decide +kernel
theorem dX0_giveName_119 : decode cX0_giveName 119 = .ok (.getfield 46, 3) := by decide +kernel
theorem dX0_giveName_122 : decode cX0_giveName 122 = .ok (.iload 5, 2) := by decide +kernel
theorem dX0_giveName_124 : decode cX0_giveName 124 = .ok (.iaload, 1) := by decide +kernel
theorem dX0_giveName_125 : decode cX0_giveName 125 = .ok (.iload 4, 2) := by decide +kernel
theorem dX0_giveName_127 : decode cX0_giveName 127 = .ok (.ishr, 1) := by decide +kernel
theorem dX0_giveName_128 : decode cX0_giveName 128 = .ok (.iconst 1, 1) := by decide +kernel
theorem dX0_giveName_129 : decode cX0_giveName 129 = .ok (.iand, 1) := by decide +kernel
theorem dX0_giveName_130 : decode cX0_giveName 130 = .ok (.ifCond .eq 16, 3) := by decide +kernel
theorem dX0_giveName_133 : decode cX0_giveName 133 = .ok (.aload_n 0, 1) := by decide +kernel
theorem dX0_giveName_134 : decode cX0_giveName 134 = .ok (.getfield 46, 3) := by decide +kernel
theorem dX0_giveName_137 : decode cX0_giveName 137 = .ok (.iload 5, 2) := by decide +kernel
theorem dX0_giveName_139 : decode cX0_giveName 139 = .ok (.dup2, 1) := by decide +kernel
theorem dX0_giveName_140 : decode cX0_giveName 140 = .ok (.iaload, 1) := by decide +kernel
theorem dX0_giveName_141 : decode cX0_giveName 141 = .ok (.iconst 1, 1) := by decide +kernel
theorem dX0_giveName_142 : decode cX0_giveName 142 = .ok (.iload_n 2, 1) := by decide +kernel
theorem dX0_giveName_143 : decode cX0_giveName 143 = .ok (.ishl, 1) := by decide +kernel
theorem dX0_giveName_144 : decode cX0_giveName 144 = .ok (.ior, 1) := by decide +kernel
theorem dX0_giveName_145 : decode cX0_giveName 145 = .ok (.iastore, 1) := by decide +kernel
theorem dX0_giveName_146 : decode cX0_giveName 146 = .ok (.iinc 5 1, 3) := by decide +kernel
theorem dX0_giveName_149 : decode cX0_giveName 149 = .ok (.goto (-138), 3) := by decide +kernel
theorem dX0_giveName_152 : decode cX0_giveName 152 = .ok (.iconst 0, 1) := by decide +kernel
theorem dX0_giveName_153 : decode cX0_giveName 153 = .ok (.istore 5, 2) := by decide +kernel
theorem dX0_giveName_155 : decode cX0_giveName 155 = .ok (.iload 5, 2) := by decide +kernel
theorem dX0_giveName_157 : decode cX0_giveName 157 = .ok (.aload_n 0, 1) := by decide +kernel
theorem dX0_giveName_158 : decode cX0_giveName 158 = .ok (.getfield 52, 3) := by decide +kernel
theorem dX0_giveName_161 : decode cX0_giveName 161 = .ok (.if_icmp .ge 27, 3) := by decide +kernel
theorem dX0_giveName_164 : decode cX0_giveName 164 = .ok (.aload_n 3, 1) := by decide +kernel
theorem dX0_giveName_165 : decode cX0_giveName 165 = .ok (.iload 5, 2) := by decide +kernel
theorem dX0_giveName_167 : decode cX0_giveName 167 = .ok (.iload_n 1, 1) := by decide +kernel
theorem dX0_giveName_168 : decode cX0_giveName 168 = .ok (.invokevirtual 114, 3) := by decide +kernel
theorem dX0_giveName_171 : decode cX0_giveName 171 = .ok (.ifCond .eq 11, 3) := by decide +kernel
theorem dX0_giveName_174 : decode cX0_giveName 174 = .ok (.aload_n 0, 1) := by decide +kernel
theorem dX0_giveName_175 : decode cX0_giveName 175 = .ok (.getfield 58, 3) := by decide +kernel
theorem dX0_giveName_178 : decode cX0_giveName 178 = .ok (.iload 5, 2) := by decide +kernel
theorem dX0_giveName_180 : decode cX0_giveName 180 = .ok (.iload_n 2, 1) := by decide +kernel
theorem dX0_giveName_181 : decode cX0_giveName 181 = .ok (.iastore, 1) := by decide +kernel
theorem dX0_giveName_182 : decode cX0_giveName 182 = .ok (.iinc 5 1, 3) := by decide +kernel
theorem dX0_giveName_185 : decode cX0_giveName 185 = .ok (.goto (-30), 3) := by decide +kernel
theorem dX0_giveName_188 : decode cX0_giveName 188 = .ok (.aload_n 0, 1) := by decide +kernel
theorem dX0_giveName_189 : decode cX0_giveName 189 = .ok (.getfield 25, 3) := by decide +kernel
theorem dX0_giveName_192 : decode cX0_giveName 192 = .ok (.iload_n 1, 1) := by decide +kernel
theorem dX0_giveName_193 : decode cX0_giveName 193 = .ok (.iload_n 2, 1) := by decide +kernel
theorem dX0_giveName_194 : decode cX0_giveName 194 = .ok (.iastore, 1) := by decide +kernel
theorem dX0_giveName_195 : decode cX0_giveName 195 = .ok (.return_, 1) := by decide +kernel
theorem dX0_followsRenaming_0 : decode cX0_followsRenaming 0 = .ok (.aload_n 0, 1) := by decide +kernel
theorem dX0_followsRenaming_1 : decode cX0_followsRenaming 1 = .ok (.getfield 58, 3) := by decide +kernel
theorem dX0_followsRenaming_4 : decode cX0_followsRenaming 4 = .ok (.iload_n 1, 1) := by decide +kernel
theorem dX0_followsRenaming_5 : decode cX0_followsRenaming 5 = .ok (.iaload, 1) := by decide +kernel
theorem dX0_followsRenaming_6 : decode cX0_followsRenaming 6 = .ok (.aload_n 0, 1) := by decide +kernel
theorem dX0_followsRenaming_7 : decode cX0_followsRenaming 7 = .ok (.getfield 25, 3) := by decide +kernel
theorem dX0_followsRenaming_10 : decode cX0_followsRenaming 10 = .ok (.iload_n 2, 1) := by decide +kernel
theorem dX0_followsRenaming_11 : decode cX0_followsRenaming 11 = .ok (.iaload, 1) := by decide +kernel
theorem dX0_followsRenaming_12 : decode cX0_followsRenaming 12 = .ok (.if_icmp .ne 18, 3) := by decide +kernel
theorem dX0_followsRenaming_15 : decode cX0_followsRenaming 15 = .ok (.aload_n 0, 1) := by decide +kernel
theorem dX0_followsRenaming_16 : decode cX0_followsRenaming 16 = .ok (.iload_n 1, 1) := by decide +kernel
theorem dX0_followsRenaming_17 : decode cX0_followsRenaming 17 = .ok (.invokevirtual 117, 3) := by decide +kernel
theorem dX0_followsRenaming_20 : decode cX0_followsRenaming 20 = .ok (.iconst 1, 1) := by decide +kernel
theorem dX0_followsRenaming_21 : decode cX0_followsRenaming 21 = .ok (.iload_n 2, 1) := by decide +kernel
theorem dX0_followsRenaming_22 : decode cX0_followsRenaming 22 = .ok (.ishl, 1) := by decide +kernel
theorem dX0_followsRenaming_23 : decode cX0_followsRenaming 23 = .ok (.if_icmp .ne 7, 3) := by decide +kernel
theorem dX0_followsRenaming_26 : decode cX0_followsRenaming 26 = .ok (.iconst 1, 1) := by decide +kernel
theorem dX0_followsRenaming_27 : decode cX0_followsRenaming 27 = .ok (.goto 4, 3) := by decide +kernel
theorem dX0_followsRenaming_30 : decode cX0_followsRenaming 30 = .ok (.iconst 0, 1) := by decide +kernel
theorem dX0_followsRenaming_31 : decode cX0_followsRenaming 31 = .ok (.ireturn, 1) := by decide +kernel
theorem dX0_firstLayer_0 : decode cX0_firstLayer 0 = .ok (.iload_n 1, 1) := by decide +kernel
theorem dX0_firstLayer_1 : decode cX0_firstLayer 1 = .ok (.istore_n 3, 1) := by decide +kernel
theorem dX0_firstLayer_2 : decode cX0_firstLayer 2 = .ok (.iconst 0, 1) := by decide +kernel
theorem dX0_firstLayer_3 : decode cX0_firstLayer 3 = .ok (.istore 4, 2) := by decide +kernel
theorem dX0_firstLayer_5 : decode cX0_firstLayer 5 = .ok (.iload 4, 2) := by decide +kernel
theorem dX0_firstLayer_7 : decode cX0_firstLayer 7 = .ok (.bipush 16, 2) := by decide +kernel
theorem dX0_firstLayer_9 : decode cX0_firstLayer 9 = .ok (.if_icmp .ge 101, 3) := by decide +kernel
theorem dX0_firstLayer_12 : decode cX0_firstLayer 12 = .ok (.iload_n 3, 1) := by decide +kernel
theorem dX0_firstLayer_13 : decode cX0_firstLayer 13 = .ok (.iconst (-1), 1) := by decide +kernel
theorem dX0_firstLayer_14 : decode cX0_firstLayer 14 = .ok (.if_icmp .eq 96, 3) := by decide +kernel
theorem dX0_firstLayer_17 : decode cX0_firstLayer 17 = .ok (.iload_n 3, 1) := by decide +kernel
theorem dX0_firstLayer_18 : decode cX0_firstLayer 18 = .ok (.bipush 26, 2) := by decide +kernel
theorem dX0_firstLayer_20 : decode cX0_firstLayer 20 = .ok (.imul, 1) := by decide +kernel
theorem dX0_firstLayer_21 : decode cX0_firstLayer 21 = .ok (.iload_n 2, 1) := by decide +kernel
theorem dX0_firstLayer_22 : decode cX0_firstLayer 22 = .ok (.iadd, 1) := by decide +kernel
theorem dX0_firstLayer_23 : decode cX0_firstLayer 23 = .ok (.istore 5, 2) := by decide +kernel
theorem dX0_firstLayer_25 : decode cX0_firstLayer 25 = .ok (.aload_n 0, 1) := by decide +kernel
theorem dX0_firstLayer_26 : decode cX0_firstLayer 26 = .ok (.getfield 67, 3) := by decide +kernel
theorem dX0_firstLayer_29 : decode cX0_firstLayer 29 = .ok (.getfield 121, 3) := by decide +kernel
theorem dX0_firstLayer_32 : decode cX0_firstLayer 32 = .ok (.iload 5, 2) := by decide +kernel
theorem dX0_firstLayer_34 : decode cX0_firstLayer 34 = .ok (.iaload, 1) := by decide +kernel
theorem dX0_firstLayer_35 : decode cX0_firstLayer 35 = .ok (.ifCond .eq 14, 3) := by decide +kernel
theorem dX0_firstLayer_38 : decode cX0_firstLayer 38 = .ok (.aload_n 0, 1) := by decide +kernel
theorem dX0_firstLayer_39 : decode cX0_firstLayer 39 = .ok (.getfield 67, 3) := by decide +kernel
theorem dX0_firstLayer_42 : decode cX0_firstLayer 42 = .ok (.getfield 121, 3) := by decide +kernel
theorem dX0_firstLayer_45 : decode cX0_firstLayer 45 = .ok (.iload 5, 2) := by decide +kernel
theorem dX0_firstLayer_47 : decode cX0_firstLayer 47 = .ok (.iaload, 1) := by decide +kernel
theorem dX0_firstLayer_48 : decode cX0_firstLayer 48 = .ok (.ireturn, 1) := by decide +kernel
theorem dX0_firstLayer_49 : decode cX0_firstLayer 49 = .ok (.aload_n 0, 1) := by decide +kernel
theorem dX0_firstLayer_50 : decode cX0_firstLayer 50 = .ok (.getfield 67, 3) := by decide +kernel
theorem dX0_firstLayer_53 : decode cX0_firstLayer 53 = .ok (.getfield 124, 3) := by decide +kernel
theorem dX0_firstLayer_56 : decode cX0_firstLayer 56 = .ok (.iload 5, 2) := by decide +kernel
theorem dX0_firstLayer_58 : decode cX0_firstLayer 58 = .ok (.iaload, 1) := by decide +kernel
theorem dX0_firstLayer_59 : decode cX0_firstLayer 59 = .ok (.ifCond .eq 14, 3) := by decide +kernel
theorem dX0_firstLayer_62 : decode cX0_firstLayer 62 = .ok (.aload_n 0, 1) := by decide +kernel
theorem dX0_firstLayer_63 : decode cX0_firstLayer 63 = .ok (.getfield 67, 3) := by decide +kernel
theorem dX0_firstLayer_66 : decode cX0_firstLayer 66 = .ok (.getfield 124, 3) := by decide +kernel
theorem dX0_firstLayer_69 : decode cX0_firstLayer 69 = .ok (.iload 5, 2) := by decide +kernel
theorem dX0_firstLayer_71 : decode cX0_firstLayer 71 = .ok (.iaload, 1) := by decide +kernel
theorem dX0_firstLayer_72 : decode cX0_firstLayer 72 = .ok (.ireturn, 1) := by decide +kernel
theorem dX0_firstLayer_73 : decode cX0_firstLayer 73 = .ok (.aload_n 0, 1) := by decide +kernel
theorem dX0_firstLayer_74 : decode cX0_firstLayer 74 = .ok (.getfield 67, 3) := by decide +kernel
theorem dX0_firstLayer_77 : decode cX0_firstLayer 77 = .ok (.getfield 127, 3) := by decide +kernel
theorem dX0_firstLayer_80 : decode cX0_firstLayer 80 = .ok (.iload 5, 2) := by decide +kernel
theorem dX0_firstLayer_82 : decode cX0_firstLayer 82 = .ok (.iaload, 1) := by decide +kernel
theorem dX0_firstLayer_83 : decode cX0_firstLayer 83 = .ok (.ifCond .eq 14, 3) := by decide +kernel
theorem dX0_firstLayer_86 : decode cX0_firstLayer 86 = .ok (.aload_n 0, 1) := by decide +kernel
theorem dX0_firstLayer_87 : decode cX0_firstLayer 87 = .ok (.getfield 67, 3) := by decide +kernel
theorem dX0_firstLayer_90 : decode cX0_firstLayer 90 = .ok (.getfield 127, 3) := by decide +kernel
theorem dX0_firstLayer_93 : decode cX0_firstLayer 93 = .ok (.iload 5, 2) := by decide +kernel
theorem dX0_firstLayer_95 : decode cX0_firstLayer 95 = .ok (.iaload, 1) := by decide +kernel
theorem dX0_firstLayer_96 : decode cX0_firstLayer 96 = .ok (.ireturn, 1) := by decide +kernel
theorem dX0_firstLayer_97 : decode cX0_firstLayer 97 = .ok (.aload_n 0, 1) := by decide +kernel
theorem dX0_firstLayer_98 : decode cX0_firstLayer 98 = .ok (.getfield 15, 3) := by decide +kernel
theorem dX0_firstLayer_101 : decode cX0_firstLayer 101 = .ok (.iload_n 3, 1) := by decide +kernel
theorem dX0_firstLayer_102 : decode cX0_firstLayer 102 = .ok (.iaload, 1) := by decide +kernel
theorem dX0_firstLayer_103 : decode cX0_firstLayer 103 = .ok (.istore_n 3, 1) := by decide +kernel
theorem dX0_firstLayer_104 : decode cX0_firstLayer 104 = .ok (.iinc 4 1, 3) := by decide +kernel
theorem dX0_firstLayer_107 : decode cX0_firstLayer 107 = .ok (.goto (-102), 3) := by decide +kernel
theorem dX0_firstLayer_110 : decode cX0_firstLayer 110 = .ok (.iconst 0, 1) := by decide +kernel
theorem dX0_firstLayer_111 : decode cX0_firstLayer 111 = .ok (.ireturn, 1) := by decide +kernel
theorem dX0_placeOfLayer_0 : decode cX0_placeOfLayer 0 = .ok (.iconst 0, 1) := by decide +kernel
theorem dX0_placeOfLayer_1 : decode cX0_placeOfLayer 1 = .ok (.istore 4, 2) := by decide +kernel
theorem dX0_placeOfLayer_3 : decode cX0_placeOfLayer 3 = .ok (.iload_n 1, 1) := by decide +kernel
theorem dX0_placeOfLayer_4 : decode cX0_placeOfLayer 4 = .ok (.istore 5, 2) := by decide +kernel
theorem dX0_placeOfLayer_6 : decode cX0_placeOfLayer 6 = .ok (.iconst 0, 1) := by decide +kernel
theorem dX0_placeOfLayer_7 : decode cX0_placeOfLayer 7 = .ok (.istore 6, 2) := by decide +kernel
theorem dX0_placeOfLayer_9 : decode cX0_placeOfLayer 9 = .ok (.iload 6, 2) := by decide +kernel
theorem dX0_placeOfLayer_11 : decode cX0_placeOfLayer 11 = .ok (.bipush 48, 2) := by decide +kernel
theorem dX0_placeOfLayer_13 : decode cX0_placeOfLayer 13 = .ok (.if_icmp .ge 70, 3) := by decide +kernel
theorem dX0_placeOfLayer_16 : decode cX0_placeOfLayer 16 = .ok (.iload 5, 2) := by decide +kernel
theorem dX0_placeOfLayer_18 : decode cX0_placeOfLayer 18 = .ok (.iconst (-1), 1) := by decide +kernel
theorem dX0_placeOfLayer_19 : decode cX0_placeOfLayer 19 = .ok (.if_icmp .eq 64, 3) := by decide +kernel
theorem dX0_placeOfLayer_22 : decode cX0_placeOfLayer 22 = .ok (.aload_n 0, 1) := by decide +kernel
theorem dX0_placeOfLayer_23 : decode cX0_placeOfLayer 23 = .ok (.getfield 67, 3) := by decide +kernel
theorem dX0_placeOfLayer_26 : decode cX0_placeOfLayer 26 = .ok (.iload 6, 2) := by decide +kernel
theorem dX0_placeOfLayer_28 : decode cX0_placeOfLayer 28 = .ok (.iconst 3, 1) := by decide +kernel
theorem dX0_placeOfLayer_29 : decode cX0_placeOfLayer 29 = .ok (.irem, 1) := by decide +kernel
theorem dX0_placeOfLayer_30 : decode cX0_placeOfLayer 30 = .ok (.iload 5, 2) := by decide +kernel
theorem dX0_placeOfLayer_32 : decode cX0_placeOfLayer 32 = .ok (.bipush 26, 2) := by decide +kernel
theorem dX0_placeOfLayer_34 : decode cX0_placeOfLayer 34 = .ok (.imul, 1) := by decide +kernel
theorem dX0_placeOfLayer_35 : decode cX0_placeOfLayer 35 = .ok (.iload_n 2, 1) := by decide +kernel
theorem dX0_placeOfLayer_36 : decode cX0_placeOfLayer 36 = .ok (.iadd, 1) := by decide +kernel
theorem dX0_placeOfLayer_37 : decode cX0_placeOfLayer 37 = .ok (.invokevirtual 130, 3) := by decide +kernel
theorem dX0_placeOfLayer_40 : decode cX0_placeOfLayer 40 = .ok (.ifCond .eq 15, 3) := by decide +kernel
theorem dX0_placeOfLayer_43 : decode cX0_placeOfLayer 43 = .ok (.iload 4, 2) := by decide +kernel
theorem dX0_placeOfLayer_45 : decode cX0_placeOfLayer 45 = .ok (.iload_n 3, 1) := by decide +kernel
theorem dX0_placeOfLayer_46 : decode cX0_placeOfLayer 46 = .ok (.if_icmp .ne 6, 3) := by decide +kernel
theorem dX0_placeOfLayer_49 : decode cX0_placeOfLayer 49 = .ok (.iload 6, 2) := by decide +kernel
theorem dX0_placeOfLayer_51 : decode cX0_placeOfLayer 51 = .ok (.ireturn, 1) := by decide +kernel
theorem dX0_placeOfLayer_52 : decode cX0_placeOfLayer 52 = .ok (.iinc 4 1, 3) := by decide +kernel
theorem dX0_placeOfLayer_55 : decode cX0_placeOfLayer 55 = .ok (.iload 6, 2) := by decide +kernel
theorem dX0_placeOfLayer_57 : decode cX0_placeOfLayer 57 = .ok (.iconst 3, 1) := by decide +kernel
theorem dX0_placeOfLayer_58 : decode cX0_placeOfLayer 58 = .ok (.irem, 1) := by decide +kernel
theorem dX0_placeOfLayer_59 : decode cX0_placeOfLayer 59 = .ok (.iconst 2, 1) := by decide +kernel
theorem dX0_placeOfLayer_60 : decode cX0_placeOfLayer 60 = .ok (.if_icmp .ne 13, 3) := by decide +kernel
theorem dX0_placeOfLayer_63 : decode cX0_placeOfLayer 63 = .ok (.aload_n 0, 1) := by decide +kernel
theorem dX0_placeOfLayer_64 : decode cX0_placeOfLayer 64 = .ok (.getfield 15, 3) := by decide +kernel
theorem dX0_placeOfLayer_67 : decode cX0_placeOfLayer 67 = .ok (.iload 5, 2) := by decide +kernel
theorem dX0_placeOfLayer_69 : decode cX0_placeOfLayer 69 = .ok (.iaload, 1) := by decide +kernel
theorem dX0_placeOfLayer_70 : decode cX0_placeOfLayer 70 = .ok (.goto 5, 3) := by decide +kernel
theorem dX0_placeOfLayer_73 : decode cX0_placeOfLayer 73 = .ok (.iload 5, 2) := by decide +kernel
theorem dX0_placeOfLayer_75 : decode cX0_placeOfLayer 75 = .ok (.istore 5, 2) := by decide +kernel
theorem dX0_placeOfLayer_77 : decode cX0_placeOfLayer 77 = .ok (.iinc 6 1, 3) := by decide +kernel
theorem dX0_placeOfLayer_80 : decode cX0_placeOfLayer 80 = .ok (.goto (-71), 3) := by decide +kernel
theorem dX0_placeOfLayer_83 : decode cX0_placeOfLayer 83 = .ok (.iconst (-1), 1) := by decide +kernel
theorem dX0_placeOfLayer_84 : decode cX0_placeOfLayer 84 = .ok (.ireturn, 1) := by decide +kernel
theorem dX0_layersOf_0 : decode cX0_layersOf 0 = .ok (.iconst 0, 1) := by decide +kernel
theorem dX0_layersOf_1 : decode cX0_layersOf 1 = .ok (.istore_n 3, 1) := by decide +kernel
theorem dX0_layersOf_2 : decode cX0_layersOf 2 = .ok (.iload_n 1, 1) := by decide +kernel
theorem dX0_layersOf_3 : decode cX0_layersOf 3 = .ok (.istore 4, 2) := by decide +kernel
theorem dX0_layersOf_5 : decode cX0_layersOf 5 = .ok (.iconst 0, 1) := by decide +kernel
theorem dX0_layersOf_6 : decode cX0_layersOf 6 = .ok (.istore 5, 2) := by decide +kernel
theorem dX0_layersOf_8 : decode cX0_layersOf 8 = .ok (.iload 5, 2) := by decide +kernel
theorem dX0_layersOf_10 : decode cX0_layersOf 10 = .ok (.bipush 48, 2) := by decide +kernel
theorem dX0_layersOf_12 : decode cX0_layersOf 12 = .ok (.if_icmp .ge 66, 3) := by decide +kernel
theorem dX0_layersOf_15 : decode cX0_layersOf 15 = .ok (.iload 4, 2) := by decide +kernel
theorem dX0_layersOf_17 : decode cX0_layersOf 17 = .ok (.iconst (-1), 1) := by decide +kernel
theorem dX0_layersOf_18 : decode cX0_layersOf 18 = .ok (.if_icmp .eq 60, 3) := by decide +kernel
theorem dX0_layersOf_21 : decode cX0_layersOf 21 = .ok (.iload_n 3, 1) := by decide +kernel
theorem dX0_layersOf_22 : decode cX0_layersOf 22 = .ok (.aload_n 0, 1) := by decide +kernel
theorem dX0_layersOf_23 : decode cX0_layersOf 23 = .ok (.getfield 67, 3) := by decide +kernel
theorem dX0_layersOf_26 : decode cX0_layersOf 26 = .ok (.iload 5, 2) := by decide +kernel
theorem dX0_layersOf_28 : decode cX0_layersOf 28 = .ok (.iconst 3, 1) := by decide +kernel
theorem dX0_layersOf_29 : decode cX0_layersOf 29 = .ok (.irem, 1) := by decide +kernel
theorem dX0_layersOf_30 : decode cX0_layersOf 30 = .ok (.iload 4, 2) := by decide +kernel
theorem dX0_layersOf_32 : decode cX0_layersOf 32 = .ok (.bipush 26, 2) := by decide +kernel
theorem dX0_layersOf_34 : decode cX0_layersOf 34 = .ok (.imul, 1) := by decide +kernel
theorem dX0_layersOf_35 : decode cX0_layersOf 35 = .ok (.iload_n 2, 1) := by decide +kernel
theorem dX0_layersOf_36 : decode cX0_layersOf 36 = .ok (.iadd, 1) := by decide +kernel
theorem dX0_layersOf_37 : decode cX0_layersOf 37 = .ok (.invokevirtual 130, 3) := by decide +kernel
theorem dX0_layersOf_40 : decode cX0_layersOf 40 = .ok (.ifCond .eq 7, 3) := by decide +kernel
theorem dX0_layersOf_43 : decode cX0_layersOf 43 = .ok (.iconst 1, 1) := by decide +kernel
theorem dX0_layersOf_44 : decode cX0_layersOf 44 = .ok (.goto 4, 3) := by decide +kernel
theorem dX0_layersOf_47 : decode cX0_layersOf 47 = .ok (.iconst 0, 1) := by decide +kernel
theorem dX0_layersOf_48 : decode cX0_layersOf 48 = .ok (.iadd, 1) := by decide +kernel
theorem dX0_layersOf_49 : decode cX0_layersOf 49 = .ok (.istore_n 3, 1) := by decide +kernel
theorem dX0_layersOf_50 : decode cX0_layersOf 50 = .ok (.iload 5, 2) := by decide +kernel
theorem dX0_layersOf_52 : decode cX0_layersOf 52 = .ok (.iconst 3, 1) := by decide +kernel
theorem dX0_layersOf_53 : decode cX0_layersOf 53 = .ok (.irem, 1) := by decide +kernel
theorem dX0_layersOf_54 : decode cX0_layersOf 54 = .ok (.iconst 2, 1) := by decide +kernel
theorem dX0_layersOf_55 : decode cX0_layersOf 55 = .ok (.if_icmp .ne 13, 3) := by decide +kernel
theorem dX0_layersOf_58 : decode cX0_layersOf 58 = .ok (.aload_n 0, 1) := by decide +kernel
theorem dX0_layersOf_59 : decode cX0_layersOf 59 = .ok (.getfield 15, 3) := by decide +kernel
theorem dX0_layersOf_62 : decode cX0_layersOf 62 = .ok (.iload 4, 2) := by decide +kernel
theorem dX0_layersOf_64 : decode cX0_layersOf 64 = .ok (.iaload, 1) := by decide +kernel
theorem dX0_layersOf_65 : decode cX0_layersOf 65 = .ok (.goto 5, 3) := by decide +kernel
theorem dX0_layersOf_68 : decode cX0_layersOf 68 = .ok (.iload 4, 2) := by decide +kernel
theorem dX0_layersOf_70 : decode cX0_layersOf 70 = .ok (.istore 4, 2) := by decide +kernel
theorem dX0_layersOf_72 : decode cX0_layersOf 72 = .ok (.iinc 5 1, 3) := by decide +kernel
theorem dX0_layersOf_75 : decode cX0_layersOf 75 = .ok (.goto (-67), 3) := by decide +kernel
theorem dX0_layersOf_78 : decode cX0_layersOf 78 = .ok (.iload_n 3, 1) := by decide +kernel
theorem dX0_layersOf_79 : decode cX0_layersOf 79 = .ok (.ireturn, 1) := by decide +kernel
theorem dX0_layerAt_0 : decode cX0_layerAt 0 = .ok (.iload_n 1, 1) := by decide +kernel
theorem dX0_layerAt_1 : decode cX0_layerAt 1 = .ok (.istore 4, 2) := by decide +kernel
theorem dX0_layerAt_3 : decode cX0_layerAt 3 = .ok (.iconst 0, 1) := by decide +kernel
theorem dX0_layerAt_4 : decode cX0_layerAt 4 = .ok (.istore 5, 2) := by decide +kernel
theorem dX0_layerAt_6 : decode cX0_layerAt 6 = .ok (.iload 5, 2) := by decide +kernel
theorem dX0_layerAt_8 : decode cX0_layerAt 8 = .ok (.iload_n 3, 1) := by decide +kernel
theorem dX0_layerAt_9 : decode cX0_layerAt 9 = .ok (.iconst 3, 1) := by decide +kernel
theorem dX0_layerAt_10 : decode cX0_layerAt 10 = .ok (.idiv, 1) := by decide +kernel
theorem dX0_layerAt_11 : decode cX0_layerAt 11 = .ok (.if_icmp .ge 24, 3) := by decide +kernel
theorem dX0_layerAt_14 : decode cX0_layerAt 14 = .ok (.iload 4, 2) := by decide +kernel
theorem dX0_layerAt_16 : decode cX0_layerAt 16 = .ok (.iconst (-1), 1) := by decide +kernel
theorem dX0_layerAt_17 : decode cX0_layerAt 17 = .ok (.if_icmp .eq 18, 3) := by decide +kernel
theorem dX0_layerAt_20 : decode cX0_layerAt 20 = .ok (.aload_n 0, 1) := by decide +kernel
theorem dX0_layerAt_21 : decode cX0_layerAt 21 = .ok (.getfield 15, 3) := by decide +kernel
theorem dX0_layerAt_24 : decode cX0_layerAt 24 = .ok (.iload 4, 2) := by decide +kernel
theorem dX0_layerAt_26 : decode cX0_layerAt 26 = .ok (.iaload, 1) := by decide +kernel
theorem dX0_layerAt_27 : decode cX0_layerAt 27 = .ok (.istore 4, 2) := by decide +kernel
theorem dX0_layerAt_29 : decode cX0_layerAt 29 = .ok (.iinc 5 1, 3) := by decide +kernel
theorem dX0_layerAt_32 : decode cX0_layerAt 32 = .ok (.goto (-26), 3) := by decide +kernel
theorem dX0_layerAt_35 : decode cX0_layerAt 35 = .ok (.iload 4, 2) := by decide +kernel
theorem dX0_layerAt_37 : decode cX0_layerAt 37 = .ok (.iconst (-1), 1) := by decide +kernel
theorem dX0_layerAt_38 : decode cX0_layerAt 38 = .ok (.if_icmp .ne 7, 3) := by decide +kernel
theorem dX0_layerAt_41 : decode cX0_layerAt 41 = .ok (.iconst 0, 1) := by decide +kernel
theorem dX0_layerAt_42 : decode cX0_layerAt 42 = .ok (.goto 20, 3) := by decide +kernel
theorem dX0_layerAt_45 : decode cX0_layerAt 45 = .ok (.aload_n 0, 1) := by decide +kernel
theorem dX0_layerAt_46 : decode cX0_layerAt 46 = .ok (.getfield 67, 3) := by decide +kernel
theorem dX0_layerAt_49 : decode cX0_layerAt 49 = .ok (.iload_n 3, 1) := by decide +kernel
theorem dX0_layerAt_50 : decode cX0_layerAt 50 = .ok (.iconst 3, 1) := by decide +kernel
theorem dX0_layerAt_51 : decode cX0_layerAt 51 = .ok (.irem, 1) := by decide +kernel
theorem dX0_layerAt_52 : decode cX0_layerAt 52 = .ok (.iload 4, 2) := by decide +kernel
theorem dX0_layerAt_54 : decode cX0_layerAt 54 = .ok (.bipush 26, 2) := by decide +kernel
theorem dX0_layerAt_56 : decode cX0_layerAt 56 = .ok (.imul, 1) := by decide +kernel
theorem dX0_layerAt_57 : decode cX0_layerAt 57 = .ok (.iload_n 2, 1) := by decide +kernel
theorem dX0_layerAt_58 : decode cX0_layerAt 58 = .ok (.iadd, 1) := by decide +kernel
theorem dX0_layerAt_59 : decode cX0_layerAt 59 = .ok (.invokevirtual 130, 3) := by decide +kernel
theorem dX0_layerAt_62 : decode cX0_layerAt 62 = .ok (.ireturn, 1) := by decide +kernel
theorem dX0_outcome_0 : decode cX0_outcome 0 = .ok (.aload_n 0, 1) := by decide +kernel
theorem dX0_outcome_1 : decode cX0_outcome 1 = .ok (.aload_n 0, 1) := by decide +kernel
theorem dX0_outcome_2 : decode cX0_outcome 2 = .ok (.getfield 55, 3) := by decide +kernel
theorem dX0_outcome_5 : decode cX0_outcome 5 = .ok (.iload_n 1, 1) := by decide +kernel
theorem dX0_outcome_6 : decode cX0_outcome 6 = .ok (.iaload, 1) := by decide +kernel
theorem dX0_outcome_7 : decode cX0_outcome 7 = .ok (.aload_n 0, 1) := by decide +kernel
theorem dX0_outcome_8 : decode cX0_outcome 8 = .ok (.getfield 58, 3) := by decide +kernel
theorem dX0_outcome_11 : decode cX0_outcome 11 = .ok (.iload_n 1, 1) := by decide +kernel
theorem dX0_outcome_12 : decode cX0_outcome 12 = .ok (.iaload, 1) := by decide +kernel
theorem dX0_outcome_13 : decode cX0_outcome 13 = .ok (.invokevirtual 134, 3) := by decide +kernel
theorem dX0_outcome_16 : decode cX0_outcome 16 = .ok (.ireturn, 1) := by decide +kernel
theorem dX0_stateOfUse_0 : decode cX0_stateOfUse 0 = .ok (.aload_n 0, 1) := by decide +kernel
theorem dX0_stateOfUse_1 : decode cX0_stateOfUse 1 = .ok (.iload_n 1, 1) := by decide +kernel
theorem dX0_stateOfUse_2 : decode cX0_stateOfUse 2 = .ok (.invokevirtual 117, 3) := by decide +kernel
theorem dX0_stateOfUse_5 : decode cX0_stateOfUse 5 = .ok (.invokestatic 137, 3) := by decide +kernel
theorem dX0_stateOfUse_8 : decode cX0_stateOfUse 8 = .ok (.istore_n 2, 1) := by decide +kernel
theorem dX0_stateOfUse_9 : decode cX0_stateOfUse 9 = .ok (.iload_n 2, 1) := by decide +kernel
theorem dX0_stateOfUse_10 : decode cX0_stateOfUse 10 = .ok (.iconst 2, 1) := by decide +kernel
theorem dX0_stateOfUse_11 : decode cX0_stateOfUse 11 = .ok (.if_icmp .ge 7, 3) := by decide +kernel
theorem dX0_stateOfUse_14 : decode cX0_stateOfUse 14 = .ok (.iconst 1, 1) := by decide +kernel
theorem dX0_stateOfUse_15 : decode cX0_stateOfUse 15 = .ok (.iload_n 2, 1) := by decide +kernel
theorem dX0_stateOfUse_16 : decode cX0_stateOfUse 16 = .ok (.isub, 1) := by decide +kernel
theorem dX0_stateOfUse_17 : decode cX0_stateOfUse 17 = .ok (.ireturn, 1) := by decide +kernel
theorem dX0_stateOfUse_18 : decode cX0_stateOfUse 18 = .ok (.aload_n 0, 1) := by decide +kernel
theorem dX0_stateOfUse_19 : decode cX0_stateOfUse 19 = .ok (.aload_n 0, 1) := by decide +kernel
theorem dX0_stateOfUse_20 : decode cX0_stateOfUse 20 = .ok (.getfield 55, 3) := by decide +kernel
theorem dX0_stateOfUse_23 : decode cX0_stateOfUse 23 = .ok (.iload_n 1, 1) := by decide +kernel
theorem dX0_stateOfUse_24 : decode cX0_stateOfUse 24 = .ok (.iaload, 1) := by decide +kernel
theorem dX0_stateOfUse_25 : decode cX0_stateOfUse 25 = .ok (.aload_n 0, 1) := by decide +kernel
theorem dX0_stateOfUse_26 : decode cX0_stateOfUse 26 = .ok (.getfield 58, 3) := by decide +kernel
theorem dX0_stateOfUse_29 : decode cX0_stateOfUse 29 = .ok (.iload_n 1, 1) := by decide +kernel
theorem dX0_stateOfUse_30 : decode cX0_stateOfUse 30 = .ok (.iaload, 1) := by decide +kernel
theorem dX0_stateOfUse_31 : decode cX0_stateOfUse 31 = .ok (.iconst 0, 1) := by decide +kernel
theorem dX0_stateOfUse_32 : decode cX0_stateOfUse 32 = .ok (.invokevirtual 142, 3) := by decide +kernel
theorem dX0_stateOfUse_35 : decode cX0_stateOfUse 35 = .ok (.istore_n 3, 1) := by decide +kernel
theorem dX0_stateOfUse_36 : decode cX0_stateOfUse 36 = .ok (.iload_n 3, 1) := by decide +kernel
theorem dX0_stateOfUse_37 : decode cX0_stateOfUse 37 = .ok (.iconst 3, 1) := by decide +kernel
theorem dX0_stateOfUse_38 : decode cX0_stateOfUse 38 = .ok (.irem, 1) := by decide +kernel
theorem dX0_stateOfUse_39 : decode cX0_stateOfUse 39 = .ok (.iconst 1, 1) := by decide +kernel
theorem dX0_stateOfUse_40 : decode cX0_stateOfUse 40 = .ok (.if_icmp .ne 7, 3) := by decide +kernel
theorem dX0_stateOfUse_43 : decode cX0_stateOfUse 43 = .ok (.iconst 2, 1) := by decide +kernel
theorem dX0_stateOfUse_44 : decode cX0_stateOfUse 44 = .ok (.goto 4, 3) := by decide +kernel
theorem dX0_stateOfUse_47 : decode cX0_stateOfUse 47 = .ok (.iconst 3, 1) := by decide +kernel
theorem dX0_stateOfUse_48 : decode cX0_stateOfUse 48 = .ok (.ireturn, 1) := by decide +kernel
theorem dX0_usesInState_0 : decode cX0_usesInState 0 = .ok (.iconst 0, 1) := by decide +kernel
theorem dX0_usesInState_1 : decode cX0_usesInState 1 = .ok (.istore_n 2, 1) := by decide +kernel
theorem dX0_usesInState_2 : decode cX0_usesInState 2 = .ok (.iconst 0, 1) := by decide +kernel
theorem dX0_usesInState_3 : decode cX0_usesInState 3 = .ok (.istore_n 3, 1) := by decide +kernel
theorem dX0_usesInState_4 : decode cX0_usesInState 4 = .ok (.iload_n 3, 1) := by decide +kernel
theorem dX0_usesInState_5 : decode cX0_usesInState 5 = .ok (.aload_n 0, 1) := by decide +kernel
theorem dX0_usesInState_6 : decode cX0_usesInState 6 = .ok (.getfield 52, 3) := by decide +kernel
theorem dX0_usesInState_9 : decode cX0_usesInState 9 = .ok (.if_icmp .ge 26, 3) := by decide +kernel
theorem dX0_usesInState_12 : decode cX0_usesInState 12 = .ok (.iload_n 2, 1) := by decide +kernel
theorem dX0_usesInState_13 : decode cX0_usesInState 13 = .ok (.aload_n 0, 1) := by decide +kernel
theorem dX0_usesInState_14 : decode cX0_usesInState 14 = .ok (.iload_n 3, 1) := by decide +kernel
theorem dX0_usesInState_15 : decode cX0_usesInState 15 = .ok (.invokevirtual 146, 3) := by decide +kernel
theorem dX0_usesInState_18 : decode cX0_usesInState 18 = .ok (.iload_n 1, 1) := by decide +kernel
theorem dX0_usesInState_19 : decode cX0_usesInState 19 = .ok (.if_icmp .ne 7, 3) := by decide +kernel
theorem dX0_usesInState_22 : decode cX0_usesInState 22 = .ok (.iconst 1, 1) := by decide +kernel
theorem dX0_usesInState_23 : decode cX0_usesInState 23 = .ok (.goto 4, 3) := by decide +kernel
theorem dX0_usesInState_26 : decode cX0_usesInState 26 = .ok (.iconst 0, 1) := by decide +kernel
theorem dX0_usesInState_27 : decode cX0_usesInState 27 = .ok (.iadd, 1) := by decide +kernel
theorem dX0_usesInState_28 : decode cX0_usesInState 28 = .ok (.istore_n 2, 1) := by decide +kernel
theorem dX0_usesInState_29 : decode cX0_usesInState 29 = .ok (.iinc 3 1, 3) := by decide +kernel
theorem dX0_usesInState_32 : decode cX0_usesInState 32 = .ok (.goto (-28), 3) := by decide +kernel
theorem dX0_usesInState_35 : decode cX0_usesInState 35 = .ok (.iload_n 2, 1) := by decide +kernel
theorem dX0_usesInState_36 : decode cX0_usesInState 36 = .ok (.ireturn, 1) := by decide +kernel
theorem dX0_usesResolvedTo_0 : decode cX0_usesResolvedTo 0 = .ok (.iconst 0, 1) := by decide +kernel
theorem dX0_usesResolvedTo_1 : decode cX0_usesResolvedTo 1 = .ok (.istore_n 2, 1) := by decide +kernel
theorem dX0_usesResolvedTo_2 : decode cX0_usesResolvedTo 2 = .ok (.iconst 0, 1) := by decide +kernel
theorem dX0_usesResolvedTo_3 : decode cX0_usesResolvedTo 3 = .ok (.istore_n 3, 1) := by decide +kernel
theorem dX0_usesResolvedTo_4 : decode cX0_usesResolvedTo 4 = .ok (.iload_n 3, 1) := by decide +kernel
theorem dX0_usesResolvedTo_5 : decode cX0_usesResolvedTo 5 = .ok (.aload_n 0, 1) := by decide +kernel
theorem dX0_usesResolvedTo_6 : decode cX0_usesResolvedTo 6 = .ok (.getfield 52, 3) := by decide +kernel
theorem dX0_usesResolvedTo_9 : decode cX0_usesResolvedTo 9 = .ok (.if_icmp .ge 28, 3) := by decide +kernel
theorem dX0_usesResolvedTo_12 : decode cX0_usesResolvedTo 12 = .ok (.iload_n 2, 1) := by decide +kernel
theorem dX0_usesResolvedTo_13 : decode cX0_usesResolvedTo 13 = .ok (.aload_n 0, 1) := by decide +kernel
theorem dX0_usesResolvedTo_14 : decode cX0_usesResolvedTo 14 = .ok (.iload_n 3, 1) := by decide +kernel
theorem dX0_usesResolvedTo_15 : decode cX0_usesResolvedTo 15 = .ok (.invokevirtual 117, 3) := by decide +kernel
theorem dX0_usesResolvedTo_18 : decode cX0_usesResolvedTo 18 = .ok (.iconst 1, 1) := by decide +kernel
theorem dX0_usesResolvedTo_19 : decode cX0_usesResolvedTo 19 = .ok (.iload_n 1, 1) := by decide +kernel
theorem dX0_usesResolvedTo_20 : decode cX0_usesResolvedTo 20 = .ok (.ishl, 1) := by decide +kernel
theorem dX0_usesResolvedTo_21 : decode cX0_usesResolvedTo 21 = .ok (.if_icmp .ne 7, 3) := by decide +kernel
theorem dX0_usesResolvedTo_24 : decode cX0_usesResolvedTo 24 = .ok (.iconst 1, 1) := by decide +kernel
theorem dX0_usesResolvedTo_25 : decode cX0_usesResolvedTo 25 = .ok (.goto 4, 3) := by decide +kernel
theorem dX0_usesResolvedTo_28 : decode cX0_usesResolvedTo 28 = .ok (.iconst 0, 1) := by decide +kernel
theorem dX0_usesResolvedTo_29 : decode cX0_usesResolvedTo 29 = .ok (.iadd, 1) := by decide +kernel
theorem dX0_usesResolvedTo_30 : decode cX0_usesResolvedTo 30 = .ok (.istore_n 2, 1) := by decide +kernel
theorem dX0_usesResolvedTo_31 : decode cX0_usesResolvedTo 31 = .ok (.iinc 3 1, 3) := by decide +kernel
theorem dX0_usesResolvedTo_34 : decode cX0_usesResolvedTo 34 = .ok (.goto (-30), 3) := by decide +kernel
theorem dX0_usesResolvedTo_37 : decode cX0_usesResolvedTo 37 = .ok (.iload_n 2, 1) := by decide +kernel
theorem dX0_usesResolvedTo_38 : decode cX0_usesResolvedTo 38 = .ok (.ireturn, 1) := by decide +kernel
theorem dX0_unusedDeclarations_0 : decode cX0_unusedDeclarations 0 = .ok (.iconst 0, 1) := by decide +kernel
theorem dX0_unusedDeclarations_1 : decode cX0_unusedDeclarations 1 = .ok (.istore_n 1, 1) := by decide +kernel
theorem dX0_unusedDeclarations_2 : decode cX0_unusedDeclarations 2 = .ok (.iconst 0, 1) := by decide +kernel
theorem dX0_unusedDeclarations_3 : decode cX0_unusedDeclarations 3 = .ok (.istore_n 2, 1) := by decide +kernel
theorem dX0_unusedDeclarations_4 : decode cX0_unusedDeclarations 4 = .ok (.iload_n 2, 1) := by decide +kernel
theorem dX0_unusedDeclarations_5 : decode cX0_unusedDeclarations 5 = .ok (.aload_n 0, 1) := by decide +kernel
theorem dX0_unusedDeclarations_6 : decode cX0_unusedDeclarations 6 = .ok (.getfield 52, 3) := by decide +kernel
theorem dX0_unusedDeclarations_9 : decode cX0_unusedDeclarations 9 = .ok (.if_icmp .ge 31, 3) := by decide +kernel
theorem dX0_unusedDeclarations_12 : decode cX0_unusedDeclarations 12 = .ok (.aload_n 0, 1) := by decide +kernel
theorem dX0_unusedDeclarations_13 : decode cX0_unusedDeclarations 13 = .ok (.iload_n 2, 1) := by decide +kernel
theorem dX0_unusedDeclarations_14 : decode cX0_unusedDeclarations 14 = .ok (.invokevirtual 117, 3) := by decide +kernel
theorem dX0_unusedDeclarations_17 : decode cX0_unusedDeclarations 17 = .ok (.istore_n 3, 1) := by decide +kernel
theorem dX0_unusedDeclarations_18 : decode cX0_unusedDeclarations 18 = .ok (.iload_n 1, 1) := by decide +kernel
theorem dX0_unusedDeclarations_19 : decode cX0_unusedDeclarations 19 = .ok (.iload_n 3, 1) := by decide +kernel
theorem dX0_unusedDeclarations_20 : decode cX0_unusedDeclarations 20 = .ok (.invokestatic 137, 3) := by decide +kernel
theorem dX0_unusedDeclarations_23 : decode cX0_unusedDeclarations 23 = .ok (.iconst 1, 1) := by decide +kernel
theorem dX0_unusedDeclarations_24 : decode cX0_unusedDeclarations 24 = .ok (.if_icmp .ne 7, 3) := by decide +kernel
theorem dX0_unusedDeclarations_27 : decode cX0_unusedDeclarations 27 = .ok (.iload_n 3, 1) := by decide +kernel
theorem dX0_unusedDeclarations_28 : decode cX0_unusedDeclarations 28 = .ok (.goto 4, 3) := by decide +kernel
theorem dX0_unusedDeclarations_31 : decode cX0_unusedDeclarations 31 = .ok (.iconst 0, 1) := by decide +kernel
theorem dX0_unusedDeclarations_32 : decode cX0_unusedDeclarations 32 = .ok (.ior, 1) := by decide +kernel
theorem dX0_unusedDeclarations_33 : decode cX0_unusedDeclarations 33 = .ok (.istore_n 1, 1) := by decide +kernel
theorem dX0_unusedDeclarations_34 : decode cX0_unusedDeclarations 34 = .ok (.iinc 2 1, 3) := by decide +kernel
theorem dX0_unusedDeclarations_37 : decode cX0_unusedDeclarations 37 = .ok (.goto (-33), 3) := by decide +kernel
theorem dX0_unusedDeclarations_40 : decode cX0_unusedDeclarations 40 = .ok (.aload_n 0, 1) := by decide +kernel
theorem dX0_unusedDeclarations_41 : decode cX0_unusedDeclarations 41 = .ok (.getfield 19, 3) := by decide +kernel
theorem dX0_unusedDeclarations_44 : decode cX0_unusedDeclarations 44 = .ok (.iload_n 1, 1) := by decide +kernel
theorem dX0_unusedDeclarations_45 : decode cX0_unusedDeclarations 45 = .ok (.invokestatic 137, 3) := by decide +kernel
theorem dX0_unusedDeclarations_48 : decode cX0_unusedDeclarations 48 = .ok (.isub, 1) := by decide +kernel
theorem dX0_unusedDeclarations_49 : decode cX0_unusedDeclarations 49 = .ok (.ireturn, 1) := by decide +kernel
theorem dX0_pairsBrought_0 : decode cX0_pairsBrought 0 = .ok (.aload_n 0, 1) := by decide +kernel
theorem dX0_pairsBrought_1 : decode cX0_pairsBrought 1 = .ok (.getfield 37, 3) := by decide +kernel
theorem dX0_pairsBrought_4 : decode cX0_pairsBrought 4 = .ok (.iload_n 1, 1) := by decide +kernel
theorem dX0_pairsBrought_5 : decode cX0_pairsBrought 5 = .ok (.iaload, 1) := by decide +kernel
theorem dX0_pairsBrought_6 : decode cX0_pairsBrought 6 = .ok (.bipush 26, 2) := by decide +kernel
theorem dX0_pairsBrought_8 : decode cX0_pairsBrought 8 = .ok (.imul, 1) := by decide +kernel
theorem dX0_pairsBrought_9 : decode cX0_pairsBrought 9 = .ok (.istore_n 2, 1) := by decide +kernel
theorem dX0_pairsBrought_10 : decode cX0_pairsBrought 10 = .ok (.aload_n 0, 1) := by decide +kernel
theorem dX0_pairsBrought_11 : decode cX0_pairsBrought 11 = .ok (.getfield 40, 3) := by decide +kernel
theorem dX0_pairsBrought_14 : decode cX0_pairsBrought 14 = .ok (.iload_n 1, 1) := by decide +kernel
theorem dX0_pairsBrought_15 : decode cX0_pairsBrought 15 = .ok (.iaload, 1) := by decide +kernel
theorem dX0_pairsBrought_16 : decode cX0_pairsBrought 16 = .ok (.iconst (-1), 1) := by decide +kernel
theorem dX0_pairsBrought_17 : decode cX0_pairsBrought 17 = .ok (.if_icmp .eq 23, 3) := by decide +kernel
theorem dX0_pairsBrought_20 : decode cX0_pairsBrought 20 = .ok (.aload_n 0, 1) := by decide +kernel
theorem dX0_pairsBrought_21 : decode cX0_pairsBrought 21 = .ok (.getfield 67, 3) := by decide +kernel
theorem dX0_pairsBrought_24 : decode cX0_pairsBrought 24 = .ok (.getfield 111, 3) := by decide +kernel
theorem dX0_pairsBrought_27 : decode cX0_pairsBrought 27 = .ok (.iload_n 2, 1) := by decide +kernel
theorem dX0_pairsBrought_28 : decode cX0_pairsBrought 28 = .ok (.aload_n 0, 1) := by decide +kernel
theorem dX0_pairsBrought_29 : decode cX0_pairsBrought 29 = .ok (.getfield 40, 3) := by decide +kernel
theorem dX0_pairsBrought_32 : decode cX0_pairsBrought 32 = .ok (.iload_n 1, 1) := by decide +kernel
theorem dX0_pairsBrought_33 : decode cX0_pairsBrought 33 = .ok (.iaload, 1) := by decide +kernel
theorem dX0_pairsBrought_34 : decode cX0_pairsBrought 34 = .ok (.iadd, 1) := by decide +kernel
theorem dX0_pairsBrought_35 : decode cX0_pairsBrought 35 = .ok (.iaload, 1) := by decide +kernel
theorem dX0_pairsBrought_36 : decode cX0_pairsBrought 36 = .ok (.invokestatic 137, 3) := by decide +kernel
theorem dX0_pairsBrought_39 : decode cX0_pairsBrought 39 = .ok (.ireturn, 1) := by decide +kernel
theorem dX0_pairsBrought_40 : decode cX0_pairsBrought 40 = .ok (.iconst 0, 1) := by decide +kernel
theorem dX0_pairsBrought_41 : decode cX0_pairsBrought 41 = .ok (.istore_n 3, 1) := by decide +kernel
theorem dX0_pairsBrought_42 : decode cX0_pairsBrought 42 = .ok (.iconst 0, 1) := by decide +kernel
theorem dX0_pairsBrought_43 : decode cX0_pairsBrought 43 = .ok (.istore 4, 2) := by decide +kernel
theorem dX0_pairsBrought_45 : decode cX0_pairsBrought 45 = .ok (.iload 4, 2) := by decide +kernel
theorem dX0_pairsBrought_47 : decode cX0_pairsBrought 47 = .ok (.bipush 26, 2) := by decide +kernel
theorem dX0_pairsBrought_49 : decode cX0_pairsBrought 49 = .ok (.if_icmp .ge 41, 3) := by decide +kernel
theorem dX0_pairsBrought_52 : decode cX0_pairsBrought 52 = .ok (.aload_n 0, 1) := by decide +kernel
theorem dX0_pairsBrought_53 : decode cX0_pairsBrought 53 = .ok (.getfield 46, 3) := by decide +kernel
theorem dX0_pairsBrought_56 : decode cX0_pairsBrought 56 = .ok (.iload_n 1, 1) := by decide +kernel
theorem dX0_pairsBrought_57 : decode cX0_pairsBrought 57 = .ok (.iaload, 1) := by decide +kernel
theorem dX0_pairsBrought_58 : decode cX0_pairsBrought 58 = .ok (.iload 4, 2) := by decide +kernel
theorem dX0_pairsBrought_60 : decode cX0_pairsBrought 60 = .ok (.ishr, 1) := by decide +kernel
theorem dX0_pairsBrought_61 : decode cX0_pairsBrought 61 = .ok (.iconst 1, 1) := by decide +kernel
theorem dX0_pairsBrought_62 : decode cX0_pairsBrought 62 = .ok (.iand, 1) := by decide +kernel
theorem dX0_pairsBrought_63 : decode cX0_pairsBrought 63 = .ok (.ifCond .ne 21, 3) := by decide +kernel
theorem dX0_pairsBrought_66 : decode cX0_pairsBrought 66 = .ok (.iload_n 3, 1) := by decide +kernel
theorem dX0_pairsBrought_67 : decode cX0_pairsBrought 67 = .ok (.aload_n 0, 1) := by decide +kernel
theorem dX0_pairsBrought_68 : decode cX0_pairsBrought 68 = .ok (.getfield 67, 3) := by decide +kernel
theorem dX0_pairsBrought_71 : decode cX0_pairsBrought 71 = .ok (.getfield 111, 3) := by decide +kernel
theorem dX0_pairsBrought_74 : decode cX0_pairsBrought 74 = .ok (.iload_n 2, 1) := by decide +kernel
theorem dX0_pairsBrought_75 : decode cX0_pairsBrought 75 = .ok (.iload 4, 2) := by decide +kernel
theorem dX0_pairsBrought_77 : decode cX0_pairsBrought 77 = .ok (.iadd, 1) := by decide +kernel
theorem dX0_pairsBrought_78 : decode cX0_pairsBrought 78 = .ok (.iaload, 1) := by decide +kernel
theorem dX0_pairsBrought_79 : decode cX0_pairsBrought 79 = .ok (.invokestatic 137, 3) := by decide +kernel
theorem dX0_pairsBrought_82 : decode cX0_pairsBrought 82 = .ok (.iadd, 1) := by decide +kernel
theorem dX0_pairsBrought_83 : decode cX0_pairsBrought 83 = .ok (.istore_n 3, 1) := by decide +kernel
theorem dX0_pairsBrought_84 : decode cX0_pairsBrought 84 = .ok (.iinc 4 1, 3) := by decide +kernel
theorem dX0_pairsBrought_87 : decode cX0_pairsBrought 87 = .ok (.goto (-42), 3) := by decide +kernel
theorem dX0_pairsBrought_90 : decode cX0_pairsBrought 90 = .ok (.iload_n 3, 1) := by decide +kernel
theorem dX0_pairsBrought_91 : decode cX0_pairsBrought 91 = .ok (.ireturn, 1) := by decide +kernel
theorem dX0_vainSingleImports_0 : decode cX0_vainSingleImports 0 = .ok (.iconst 0, 1) := by decide +kernel
theorem dX0_vainSingleImports_1 : decode cX0_vainSingleImports 1 = .ok (.istore_n 1, 1) := by decide +kernel
theorem dX0_vainSingleImports_2 : decode cX0_vainSingleImports 2 = .ok (.iconst 0, 1) := by decide +kernel
theorem dX0_vainSingleImports_3 : decode cX0_vainSingleImports 3 = .ok (.istore_n 2, 1) := by decide +kernel
theorem dX0_vainSingleImports_4 : decode cX0_vainSingleImports 4 = .ok (.iload_n 2, 1) := by decide +kernel
theorem dX0_vainSingleImports_5 : decode cX0_vainSingleImports 5 = .ok (.aload_n 0, 1) := by decide +kernel
theorem dX0_vainSingleImports_6 : decode cX0_vainSingleImports 6 = .ok (.getfield 31, 3) := by decide +kernel
theorem dX0_vainSingleImports_9 : decode cX0_vainSingleImports 9 = .ok (.if_icmp .ge 35, 3) := by decide +kernel
theorem dX0_vainSingleImports_12 : decode cX0_vainSingleImports 12 = .ok (.iload_n 1, 1) := by decide +kernel
theorem dX0_vainSingleImports_13 : decode cX0_vainSingleImports 13 = .ok (.aload_n 0, 1) := by decide +kernel
theorem dX0_vainSingleImports_14 : decode cX0_vainSingleImports 14 = .ok (.getfield 40, 3) := by decide +kernel
theorem dX0_vainSingleImports_17 : decode cX0_vainSingleImports 17 = .ok (.iload_n 2, 1) := by decide +kernel
theorem dX0_vainSingleImports_18 : decode cX0_vainSingleImports 18 = .ok (.iaload, 1) := by decide +kernel
theorem dX0_vainSingleImports_19 : decode cX0_vainSingleImports 19 = .ok (.iconst (-1), 1) := by decide +kernel
theorem dX0_vainSingleImports_20 : decode cX0_vainSingleImports 20 = .ok (.if_icmp .eq 15, 3) := by decide +kernel
theorem dX0_vainSingleImports_23 : decode cX0_vainSingleImports 23 = .ok (.aload_n 0, 1) := by decide +kernel
theorem dX0_vainSingleImports_24 : decode cX0_vainSingleImports 24 = .ok (.iload_n 2, 1) := by decide +kernel
theorem dX0_vainSingleImports_25 : decode cX0_vainSingleImports 25 = .ok (.invokevirtual 149, 3) := by decide +kernel
theorem dX0_vainSingleImports_28 : decode cX0_vainSingleImports 28 = .ok (.ifCond .ne 7, 3) := by decide +kernel
theorem dX0_vainSingleImports_31 : decode cX0_vainSingleImports 31 = .ok (.iconst 1, 1) := by decide +kernel
theorem dX0_vainSingleImports_32 : decode cX0_vainSingleImports 32 = .ok (.goto 4, 3) := by decide +kernel
theorem dX0_vainSingleImports_35 : decode cX0_vainSingleImports 35 = .ok (.iconst 0, 1) := by decide +kernel
theorem dX0_vainSingleImports_36 : decode cX0_vainSingleImports 36 = .ok (.iadd, 1) := by decide +kernel
theorem dX0_vainSingleImports_37 : decode cX0_vainSingleImports 37 = .ok (.istore_n 1, 1) := by decide +kernel
theorem dX0_vainSingleImports_38 : decode cX0_vainSingleImports 38 = .ok (.iinc 2 1, 3) := by decide +kernel
theorem dX0_vainSingleImports_41 : decode cX0_vainSingleImports 41 = .ok (.goto (-37), 3) := by decide +kernel
theorem dX0_vainSingleImports_44 : decode cX0_vainSingleImports 44 = .ok (.iload_n 1, 1) := by decide +kernel
theorem dX0_vainSingleImports_45 : decode cX0_vainSingleImports 45 = .ok (.ireturn, 1) := by decide +kernel
theorem dX0_greatestDepth_0 : decode cX0_greatestDepth 0 = .ok (.iconst 0, 1) := by decide +kernel
theorem dX0_greatestDepth_1 : decode cX0_greatestDepth 1 = .ok (.istore_n 1, 1) := by decide +kernel
theorem dX0_greatestDepth_2 : decode cX0_greatestDepth 2 = .ok (.iconst 0, 1) := by decide +kernel
theorem dX0_greatestDepth_3 : decode cX0_greatestDepth 3 = .ok (.istore_n 2, 1) := by decide +kernel
theorem dX0_greatestDepth_4 : decode cX0_greatestDepth 4 = .ok (.iload_n 2, 1) := by decide +kernel
theorem dX0_greatestDepth_5 : decode cX0_greatestDepth 5 = .ok (.aload_n 0, 1) := by decide +kernel
theorem dX0_greatestDepth_6 : decode cX0_greatestDepth 6 = .ok (.getfield 9, 3) := by decide +kernel
theorem dX0_greatestDepth_9 : decode cX0_greatestDepth 9 = .ok (.if_icmp .ge 51, 3) := by decide +kernel
theorem dX0_greatestDepth_12 : decode cX0_greatestDepth 12 = .ok (.aload_n 0, 1) := by decide +kernel
theorem dX0_greatestDepth_13 : decode cX0_greatestDepth 13 = .ok (.getfield 15, 3) := by decide +kernel
theorem dX0_greatestDepth_16 : decode cX0_greatestDepth 16 = .ok (.iload_n 2, 1) := by decide +kernel
theorem dX0_greatestDepth_17 : decode cX0_greatestDepth 17 = .ok (.iaload, 1) := by decide +kernel
theorem dX0_greatestDepth_18 : decode cX0_greatestDepth 18 = .ok (.istore_n 3, 1) := by decide +kernel
theorem dX0_greatestDepth_19 : decode cX0_greatestDepth 19 = .ok (.iconst 0, 1) := by decide +kernel
theorem dX0_greatestDepth_20 : decode cX0_greatestDepth 20 = .ok (.istore 4, 2) := by decide +kernel
theorem dX0_greatestDepth_22 : decode cX0_greatestDepth 22 = .ok (.iload 4, 2) := by decide +kernel
theorem dX0_greatestDepth_24 : decode cX0_greatestDepth 24 = .ok (.bipush 16, 2) := by decide +kernel
theorem dX0_greatestDepth_26 : decode cX0_greatestDepth 26 = .ok (.if_icmp .ge 21, 3) := by decide +kernel
theorem dX0_greatestDepth_29 : decode cX0_greatestDepth 29 = .ok (.iload_n 3, 1) := by decide +kernel
theorem dX0_greatestDepth_30 : decode cX0_greatestDepth 30 = .ok (.iconst (-1), 1) := by decide +kernel
theorem dX0_greatestDepth_31 : decode cX0_greatestDepth 31 = .ok (.if_icmp .eq 16, 3) := by decide +kernel
theorem dX0_greatestDepth_34 : decode cX0_greatestDepth 34 = .ok (.aload_n 0, 1) := by decide +kernel
theorem dX0_greatestDepth_35 : decode cX0_greatestDepth 35 = .ok (.getfield 15, 3) := by decide +kernel
theorem dX0_greatestDepth_38 : decode cX0_greatestDepth 38 = .ok (.iload_n 3, 1) := by decide +kernel
theorem dX0_greatestDepth_39 : decode cX0_greatestDepth 39 = .ok (.iaload, 1) := by decide +kernel
theorem dX0_greatestDepth_40 : decode cX0_greatestDepth 40 = .ok (.istore_n 3, 1) := by decide +kernel
theorem dX0_greatestDepth_41 : decode cX0_greatestDepth 41 = .ok (.iinc 4 1, 3) := by decide +kernel
theorem dX0_greatestDepth_44 : decode cX0_greatestDepth 44 = .ok (.goto (-22), 3) := by decide +kernel
theorem dX0_greatestDepth_47 : decode cX0_greatestDepth 47 = .ok (.iload_n 1, 1) := by decide +kernel
theorem dX0_greatestDepth_48 : decode cX0_greatestDepth 48 = .ok (.iload 4, 2) := by decide +kernel
theorem dX0_greatestDepth_50 : decode cX0_greatestDepth 50 = .ok (.invokestatic 152, 3) := by decide +kernel
theorem dX0_greatestDepth_53 : decode cX0_greatestDepth 53 = .ok (.istore_n 1, 1) := by decide +kernel
theorem dX0_greatestDepth_54 : decode cX0_greatestDepth 54 = .ok (.iinc 2 1, 3) := by decide +kernel
theorem dX0_greatestDepth_57 : decode cX0_greatestDepth 57 = .ok (.goto (-53), 3) := by decide +kernel
theorem dX0_greatestDepth_60 : decode cX0_greatestDepth 60 = .ok (.iload_n 1, 1) := by decide +kernel
theorem dX0_greatestDepth_61 : decode cX0_greatestDepth 61 = .ok (.ireturn, 1) := by decide +kernel
theorem dX0_pairsOffered_0 : decode cX0_pairsOffered 0 = .ok (.iconst 0, 1) := by decide +kernel
theorem dX0_pairsOffered_1 : decode cX0_pairsOffered 1 = .ok (.istore_n 1, 1) := by decide +kernel
theorem dX0_pairsOffered_2 : decode cX0_pairsOffered 2 = .ok (.iconst 0, 1) := by decide +kernel
theorem dX0_pairsOffered_3 : decode cX0_pairsOffered 3 = .ok (.istore_n 2, 1) := by decide +kernel
theorem dX0_pairsOffered_4 : decode cX0_pairsOffered 4 = .ok (.iload_n 2, 1) := by decide +kernel
theorem dX0_pairsOffered_5 : decode cX0_pairsOffered 5 = .ok (.aload_n 0, 1) := by decide +kernel
theorem dX0_pairsOffered_6 : decode cX0_pairsOffered 6 = .ok (.getfield 9, 3) := by decide +kernel
theorem dX0_pairsOffered_9 : decode cX0_pairsOffered 9 = .ok (.bipush 26, 2) := by decide +kernel
theorem dX0_pairsOffered_11 : decode cX0_pairsOffered 11 = .ok (.imul, 1) := by decide +kernel
theorem dX0_pairsOffered_12 : decode cX0_pairsOffered 12 = .ok (.if_icmp .ge 24, 3) := by decide +kernel
theorem dX0_pairsOffered_15 : decode cX0_pairsOffered 15 = .ok (.iload_n 1, 1) := by decide +kernel
theorem dX0_pairsOffered_16 : decode cX0_pairsOffered 16 = .ok (.aload_n 0, 1) := by decide +kernel
theorem dX0_pairsOffered_17 : decode cX0_pairsOffered 17 = .ok (.getfield 67, 3) := by decide +kernel
theorem dX0_pairsOffered_20 : decode cX0_pairsOffered 20 = .ok (.getfield 111, 3) := by decide +kernel
theorem dX0_pairsOffered_23 : decode cX0_pairsOffered 23 = .ok (.iload_n 2, 1) := by decide +kernel
theorem dX0_pairsOffered_24 : decode cX0_pairsOffered 24 = .ok (.iaload, 1) := by decide +kernel
theorem dX0_pairsOffered_25 : decode cX0_pairsOffered 25 = .ok (.invokestatic 137, 3) := by decide +kernel
theorem dX0_pairsOffered_28 : decode cX0_pairsOffered 28 = .ok (.iadd, 1) := by decide +kernel
theorem dX0_pairsOffered_29 : decode cX0_pairsOffered 29 = .ok (.istore_n 1, 1) := by decide +kernel
theorem dX0_pairsOffered_30 : decode cX0_pairsOffered 30 = .ok (.iinc 2 1, 3) := by decide +kernel
theorem dX0_pairsOffered_33 : decode cX0_pairsOffered 33 = .ok (.goto (-29), 3) := by decide +kernel
theorem dX0_pairsOffered_36 : decode cX0_pairsOffered 36 = .ok (.iload_n 1, 1) := by decide +kernel
theorem dX0_pairsOffered_37 : decode cX0_pairsOffered 37 = .ok (.ireturn, 1) := by decide +kernel
theorem dX0_scopesThatOffer_0 : decode cX0_scopesThatOffer 0 = .ok (.iconst 0, 1) := by decide +kernel
theorem dX0_scopesThatOffer_1 : decode cX0_scopesThatOffer 1 = .ok (.istore_n 2, 1) := by decide +kernel
theorem dX0_scopesThatOffer_2 : decode cX0_scopesThatOffer 2 = .ok (.iconst 0, 1) := by decide +kernel
theorem dX0_scopesThatOffer_3 : decode cX0_scopesThatOffer 3 = .ok (.istore_n 3, 1) := by decide +kernel
theorem dX0_scopesThatOffer_4 : decode cX0_scopesThatOffer 4 = .ok (.iload_n 3, 1) := by decide +kernel
theorem dX0_scopesThatOffer_5 : decode cX0_scopesThatOffer 5 = .ok (.aload_n 0, 1) := by decide +kernel
theorem dX0_scopesThatOffer_6 : decode cX0_scopesThatOffer 6 = .ok (.getfield 9, 3) := by decide +kernel
theorem dX0_scopesThatOffer_9 : decode cX0_scopesThatOffer 9 = .ok (.if_icmp .ge 57, 3) := by decide +kernel
theorem dX0_scopesThatOffer_12 : decode cX0_scopesThatOffer 12 = .ok (.iconst 0, 1) := by decide +kernel
theorem dX0_scopesThatOffer_13 : decode cX0_scopesThatOffer 13 = .ok (.istore 4, 2) := by decide +kernel
theorem dX0_scopesThatOffer_15 : decode cX0_scopesThatOffer 15 = .ok (.iconst 0, 1) := by decide +kernel
theorem dX0_scopesThatOffer_16 : decode cX0_scopesThatOffer 16 = .ok (.istore 5, 2) := by decide +kernel
theorem dX0_scopesThatOffer_18 : decode cX0_scopesThatOffer 18 = .ok (.iload 5, 2) := by decide +kernel
theorem dX0_scopesThatOffer_20 : decode cX0_scopesThatOffer 20 = .ok (.bipush 26, 2) := by decide +kernel
theorem dX0_scopesThatOffer_22 : decode cX0_scopesThatOffer 22 = .ok (.if_icmp .ge 29, 3) := by decide +kernel
theorem dX0_scopesThatOffer_25 : decode cX0_scopesThatOffer 25 = .ok (.iload 4, 2) := by decide +kernel
theorem dX0_scopesThatOffer_27 : decode cX0_scopesThatOffer 27 = .ok (.aload_n 0, 1) := by decide +kernel
theorem dX0_scopesThatOffer_28 : decode cX0_scopesThatOffer 28 = .ok (.getfield 67, 3) := by decide +kernel
theorem dX0_scopesThatOffer_31 : decode cX0_scopesThatOffer 31 = .ok (.getfield 111, 3) := by decide +kernel
theorem dX0_scopesThatOffer_34 : decode cX0_scopesThatOffer 34 = .ok (.iload_n 3, 1) := by decide +kernel
theorem dX0_scopesThatOffer_35 : decode cX0_scopesThatOffer 35 = .ok (.bipush 26, 2) := by decide +kernel
theorem dX0_scopesThatOffer_37 : decode cX0_scopesThatOffer 37 = .ok (.imul, 1) := by decide +kernel
theorem dX0_scopesThatOffer_38 : decode cX0_scopesThatOffer 38 = .ok (.iload 5, 2) := by decide +kernel
theorem dX0_scopesThatOffer_40 : decode cX0_scopesThatOffer 40 = .ok (.iadd, 1) := by decide +kernel
theorem dX0_scopesThatOffer_41 : decode cX0_scopesThatOffer 41 = .ok (.iaload, 1) := by decide +kernel
theorem dX0_scopesThatOffer_42 : decode cX0_scopesThatOffer 42 = .ok (.ior, 1) := by decide +kernel
theorem dX0_scopesThatOffer_43 : decode cX0_scopesThatOffer 43 = .ok (.istore 4, 2) := by decide +kernel
theorem dX0_scopesThatOffer_45 : decode cX0_scopesThatOffer 45 = .ok (.iinc 5 1, 3) := by decide +kernel
theorem dX0_scopesThatOffer_48 : decode cX0_scopesThatOffer 48 = .ok (.goto (-30), 3) := by decide +kernel
theorem dX0_scopesThatOffer_51 : decode cX0_scopesThatOffer 51 = .ok (.iload_n 2, 1) := by decide +kernel
theorem dX0_scopesThatOffer_52 : decode cX0_scopesThatOffer 52 = .ok (.iload 4, 2) := by decide +kernel
theorem dX0_scopesThatOffer_54 : decode cX0_scopesThatOffer 54 = .ok (.iload_n 1, 1) := by decide +kernel
theorem dX0_scopesThatOffer_55 : decode cX0_scopesThatOffer 55 = .ok (.ishr, 1) := by decide +kernel
theorem dX0_scopesThatOffer_56 : decode cX0_scopesThatOffer 56 = .ok (.iconst 1, 1) := by decide +kernel
theorem dX0_scopesThatOffer_57 : decode cX0_scopesThatOffer 57 = .ok (.iand, 1) := by decide +kernel
theorem dX0_scopesThatOffer_58 : decode cX0_scopesThatOffer 58 = .ok (.iadd, 1) := by decide +kernel
theorem dX0_scopesThatOffer_59 : decode cX0_scopesThatOffer 59 = .ok (.istore_n 2, 1) := by decide +kernel
theorem dX0_scopesThatOffer_60 : decode cX0_scopesThatOffer 60 = .ok (.iinc 3 1, 3) := by decide +kernel
theorem dX0_scopesThatOffer_63 : decode cX0_scopesThatOffer 63 = .ok (.goto (-59), 3) := by decide +kernel
theorem dX0_scopesThatOffer_66 : decode cX0_scopesThatOffer 66 = .ok (.iload_n 2, 1) := by decide +kernel
theorem dX0_scopesThatOffer_67 : decode cX0_scopesThatOffer 67 = .ok (.ireturn, 1) := by decide +kernel
theorem dX0_scopesThatSee_0 : decode cX0_scopesThatSee 0 = .ok (.iconst 0, 1) := by decide +kernel
theorem dX0_scopesThatSee_1 : decode cX0_scopesThatSee 1 = .ok (.istore_n 2, 1) := by decide +kernel
theorem dX0_scopesThatSee_2 : decode cX0_scopesThatSee 2 = .ok (.iconst 0, 1) := by decide +kernel
theorem dX0_scopesThatSee_3 : decode cX0_scopesThatSee 3 = .ok (.istore_n 3, 1) := by decide +kernel
theorem dX0_scopesThatSee_4 : decode cX0_scopesThatSee 4 = .ok (.iload_n 3, 1) := by decide +kernel
theorem dX0_scopesThatSee_5 : decode cX0_scopesThatSee 5 = .ok (.aload_n 0, 1) := by decide +kernel
theorem dX0_scopesThatSee_6 : decode cX0_scopesThatSee 6 = .ok (.getfield 9, 3) := by decide +kernel
theorem dX0_scopesThatSee_9 : decode cX0_scopesThatSee 9 = .ok (.if_icmp .ge 34, 3) := by decide +kernel
theorem dX0_scopesThatSee_12 : decode cX0_scopesThatSee 12 = .ok (.iload_n 2, 1) := by decide +kernel
theorem dX0_scopesThatSee_13 : decode cX0_scopesThatSee 13 = .ok (.aload_n 0, 1) := by decide +kernel
theorem dX0_scopesThatSee_14 : decode cX0_scopesThatSee 14 = .ok (.iload_n 3, 1) := by decide +kernel
theorem dX0_scopesThatSee_15 : decode cX0_scopesThatSee 15 = .ok (.aload_n 0, 1) := by decide +kernel
theorem dX0_scopesThatSee_16 : decode cX0_scopesThatSee 16 = .ok (.getfield 25, 3) := by decide +kernel
theorem dX0_scopesThatSee_19 : decode cX0_scopesThatSee 19 = .ok (.iload_n 1, 1) := by decide +kernel
theorem dX0_scopesThatSee_20 : decode cX0_scopesThatSee 20 = .ok (.iaload, 1) := by decide +kernel
theorem dX0_scopesThatSee_21 : decode cX0_scopesThatSee 21 = .ok (.invokevirtual 134, 3) := by decide +kernel
theorem dX0_scopesThatSee_24 : decode cX0_scopesThatSee 24 = .ok (.iconst 1, 1) := by decide +kernel
theorem dX0_scopesThatSee_25 : decode cX0_scopesThatSee 25 = .ok (.iload_n 1, 1) := by decide +kernel
theorem dX0_scopesThatSee_26 : decode cX0_scopesThatSee 26 = .ok (.ishl, 1) := by decide +kernel
theorem dX0_scopesThatSee_27 : decode cX0_scopesThatSee 27 = .ok (.if_icmp .ne 7, 3) := by decide +kernel
theorem dX0_scopesThatSee_30 : decode cX0_scopesThatSee 30 = .ok (.iconst 1, 1) := by decide +kernel
theorem dX0_scopesThatSee_31 : decode cX0_scopesThatSee 31 = .ok (.goto 4, 3) := by decide +kernel
theorem dX0_scopesThatSee_34 : decode cX0_scopesThatSee 34 = .ok (.iconst 0, 1) := by decide +kernel
theorem dX0_scopesThatSee_35 : decode cX0_scopesThatSee 35 = .ok (.iadd, 1) := by decide +kernel
theorem dX0_scopesThatSee_36 : decode cX0_scopesThatSee 36 = .ok (.istore_n 2, 1) := by decide +kernel
theorem dX0_scopesThatSee_37 : decode cX0_scopesThatSee 37 = .ok (.iinc 3 1, 3) := by decide +kernel
theorem dX0_scopesThatSee_40 : decode cX0_scopesThatSee 40 = .ok (.goto (-36), 3) := by decide +kernel
theorem dX0_scopesThatSee_43 : decode cX0_scopesThatSee 43 = .ok (.iload_n 2, 1) := by decide +kernel
theorem dX0_scopesThatSee_44 : decode cX0_scopesThatSee 44 = .ok (.ireturn, 1) := by decide +kernel
theorem dX1_init_0 : decode cX1_init 0 = .ok (.aload_n 0, 1) := by decide +kernel
theorem dX1_init_1 : decode cX1_init 1 = .ok (.invokespecial 3, 3) := by decide +kernel
theorem dX1_init_4 : decode cX1_init 4 = .ok (.aload_n 0, 1) := by decide +kernel
theorem dX1_init_5 : decode cX1_init 5 = .ok (.sipush 416, 3) := by decide +kernel
theorem dX1_init_8 : decode cX1_init 8 = .ok (.newarray .int, 2) := by decide +kernel
theorem dX1_init_10 : decode cX1_init 10 = .ok (.putfield 9, 3) := by decide +kernel
theorem dX1_init_13 : decode cX1_init 13 = .ok (.aload_n 0, 1) := by decide +kernel
theorem dX1_init_14 : decode cX1_init 14 = .ok (.sipush 416, 3) := by decide +kernel
theorem dX1_init_17 : decode cX1_init 17 = .ok (.newarray .int, 2) := by decide +kernel
theorem dX1_init_19 : decode cX1_init 19 = .ok (.putfield 15, 3) := by decide +kernel
theorem dX1_init_22 : decode cX1_init 22 = .ok (.aload_n 0, 1) := by decide +kernel
theorem dX1_init_23 : decode cX1_init 23 = .ok (.sipush 416, 3) := by decide +kernel
theorem dX1_init_26 : decode cX1_init 26 = .ok (.newarray .int, 2) := by decide +kernel
theorem dX1_init_28 : decode cX1_init 28 = .ok (.putfield 18, 3) := by decide +kernel
theorem dX1_init_31 : decode cX1_init 31 = .ok (.aload_n 0, 1) := by decide +kernel
theorem dX1_init_32 : decode cX1_init 32 = .ok (.sipush 416, 3) := by decide +kernel
theorem dX1_init_35 : decode cX1_init 35 = .ok (.newarray .int, 2) := by decide +kernel
theorem dX1_init_37 : decode cX1_init 37 = .ok (.putfield 21, 3) := by decide +kernel
theorem dX1_init_40 : decode cX1_init 40 = .ok (.aload_n 0, 1) := by decide +kernel
theorem dX1_init_41 : decode cX1_init 41 = .ok (.bipush 16, 2) := by decide +kernel
theorem dX1_init_43 : decode cX1_init 43 = .ok (.newarray .int, 2) := by decide +kernel
theorem dX1_init_45 : decode cX1_init 45 = .ok (.putfield 24, 3) := by decide +kernel
theorem dX1_init_48 : decode cX1_init 48 = .ok (.aload_n 0, 1) := by decide +kernel
theorem dX1_init_49 : decode cX1_init 49 = .ok (.bipush 16, 2) := by decide +kernel
theorem dX1_init_51 : decode cX1_init 51 = .ok (.newarray .int, 2) := by decide +kernel
theorem dX1_init_53 : decode cX1_init 53 = .ok (.putfield 27, 3) := by decide +kernel
theorem dX1_init_56 : decode cX1_init 56 = .ok (.return_, 1) := by decide +kernel
theorem dX1_ofSort_0 : decode cX1_ofSort 0 = .ok (.iload_n 1, 1) := by decide +kernel
theorem dX1_ofSort_1 : decode cX1_ofSort 1 = .ok (.ifCond .ne 10, 3) := by decide +kernel
theorem dX1_ofSort_4 : decode cX1_ofSort 4 = .ok (.aload_n 0, 1) := by decide +kernel
theorem dX1_ofSort_5 : decode cX1_ofSort 5 = .ok (.getfield 15, 3) := by decide +kernel
theorem dX1_ofSort_8 : decode cX1_ofSort 8 = .ok (.iload_n 2, 1) := by decide +kernel
theorem dX1_ofSort_9 : decode cX1_ofSort 9 = .ok (.iaload, 1) := by decide +kernel
theorem dX1_ofSort_10 : decode cX1_ofSort 10 = .ok (.ireturn, 1) := by decide +kernel
theorem dX1_ofSort_11 : decode cX1_ofSort 11 = .ok (.iload_n 1, 1) := by decide +kernel
theorem dX1_ofSort_12 : decode cX1_ofSort 12 = .ok (.iconst 1, 1) := by decide +kernel
theorem dX1_ofSort_13 : decode cX1_ofSort 13 = .ok (.if_icmp .ne 12, 3) := by decide +kernel
theorem dX1_ofSort_16 : decode cX1_ofSort 16 = .ok (.aload_n 0, 1) := by decide +kernel
theorem dX1_ofSort_17 : decode cX1_ofSort 17 = .ok (.getfield 18, 3) := by decide +kernel
theorem dX1_ofSort_20 : decode cX1_ofSort 20 = .ok (.iload_n 2, 1) := by decide +kernel
theorem dX1_ofSort_21 : decode cX1_ofSort 21 = .ok (.iaload, 1) := by decide +kernel
theorem dX1_ofSort_22 : decode cX1_ofSort 22 = .ok (.goto 9, 3) := by decide +kernel
theorem dX1_ofSort_25 : decode cX1_ofSort 25 = .ok (.aload_n 0, 1) := by decide +kernel
theorem dX1_ofSort_26 : decode cX1_ofSort 26 = .ok (.getfield 21, 3) := by decide +kernel
theorem dX1_ofSort_29 : decode cX1_ofSort 29 = .ok (.iload_n 2, 1) := by decide +kernel
theorem dX1_ofSort_30 : decode cX1_ofSort 30 = .ok (.iaload, 1) := by decide +kernel
theorem dX1_ofSort_31 : decode cX1_ofSort 31 = .ok (.ireturn, 1) := by decide +kernel
theorem dX1_clear_0 : decode cX1_clear 0 = .ok (.aload_n 0, 1) := by decide +kernel
theorem dX1_clear_1 : decode cX1_clear 1 = .ok (.getfield 9, 3) := by decide +kernel
theorem dX1_clear_4 : decode cX1_clear 4 = .ok (.iconst 0, 1) := by decide +kernel
theorem dX1_clear_5 : decode cX1_clear 5 = .ok (.invokestatic 30, 3) := by decide +kernel
theorem dX1_clear_8 : decode cX1_clear 8 = .ok (.aload_n 0, 1) := by decide +kernel
theorem dX1_clear_9 : decode cX1_clear 9 = .ok (.getfield 15, 3) := by decide +kernel
theorem dX1_clear_12 : decode cX1_clear 12 = .ok (.iconst 0, 1) := by decide +kernel
theorem dX1_clear_13 : decode cX1_clear 13 = .ok (.invokestatic 30, 3) := by decide +kernel
theorem dX1_clear_16 : decode cX1_clear 16 = .ok (.aload_n 0, 1) := by decide +kernel
theorem dX1_clear_17 : decode cX1_clear 17 = .ok (.getfield 18, 3) := by decide +kernel
theorem dX1_clear_20 : decode cX1_clear 20 = .ok (.iconst 0, 1) := by decide +kernel
theorem dX1_clear_21 : decode cX1_clear 21 = .ok (.invokestatic 30, 3) := by decide +kernel
theorem dX1_clear_24 : decode cX1_clear 24 = .ok (.aload_n 0, 1) := by decide +kernel
theorem dX1_clear_25 : decode cX1_clear 25 = .ok (.getfield 21, 3) := by decide +kernel
theorem dX1_clear_28 : decode cX1_clear 28 = .ok (.iconst 0, 1) := by decide +kernel
theorem dX1_clear_29 : decode cX1_clear 29 = .ok (.invokestatic 30, 3) := by decide +kernel
theorem dX1_clear_32 : decode cX1_clear 32 = .ok (.aload_n 0, 1) := by decide +kernel
theorem dX1_clear_33 : decode cX1_clear 33 = .ok (.getfield 24, 3) := by decide +kernel
theorem dX1_clear_36 : decode cX1_clear 36 = .ok (.iconst 0, 1) := by decide +kernel
theorem dX1_clear_37 : decode cX1_clear 37 = .ok (.invokestatic 30, 3) := by decide +kernel
theorem dX1_clear_40 : decode cX1_clear 40 = .ok (.aload_n 0, 1) := by decide +kernel
theorem dX1_clear_41 : decode cX1_clear 41 = .ok (.getfield 27, 3) := by decide +kernel
theorem dX1_clear_44 : decode cX1_clear 44 = .ok (.iconst 0, 1) := by decide +kernel
theorem dX1_clear_45 : decode cX1_clear 45 = .ok (.invokestatic 30, 3) := by decide +kernel
theorem dX1_clear_48 : decode cX1_clear 48 = .ok (.return_, 1) := by decide +kernel
theorem dX1_placeDeclarations_0 : decode cX1_placeDeclarations 0 = .ok (.iconst 0, 1) := by decide +kernel
theorem dX1_placeDeclarations_1 : decode cX1_placeDeclarations 1 = .ok (.istore_n 2, 1) := by decide +kernel
theorem dX1_placeDeclarations_2 : decode cX1_placeDeclarations 2 = .ok (.iload_n 2, 1) := by decide +kernel
theorem dX1_placeDeclarations_3 : decode cX1_placeDeclarations 3 = .ok (.aload_n 1, 1) := by decide +kernel
theorem dX1_placeDeclarations_4 : decode cX1_placeDeclarations 4 = .ok (.getfield 36, 3) := by decide +kernel
theorem dX1_placeDeclarations_7 : decode cX1_placeDeclarations 7 = .ok (.if_icmp .ge 89, 3) := by decide +kernel
theorem dX1_placeDeclarations_10 : decode cX1_placeDeclarations 10 = .ok (.aload_n 1, 1) := by decide +kernel
theorem dX1_placeDeclarations_11 : decode cX1_placeDeclarations 11 = .ok (.getfield 42, 3) := by decide +kernel
theorem dX1_placeDeclarations_14 : decode cX1_placeDeclarations 14 = .ok (.iload_n 2, 1) := by decide +kernel
theorem dX1_placeDeclarations_15 : decode cX1_placeDeclarations 15 = .ok (.iaload, 1) := by decide +kernel
theorem dX1_placeDeclarations_16 : decode cX1_placeDeclarations 16 = .ok (.istore_n 3, 1) := by decide +kernel
theorem dX1_placeDeclarations_17 : decode cX1_placeDeclarations 17 = .ok (.aload_n 1, 1) := by decide +kernel
theorem dX1_placeDeclarations_18 : decode cX1_placeDeclarations 18 = .ok (.getfield 45, 3) := by decide +kernel
theorem dX1_placeDeclarations_21 : decode cX1_placeDeclarations 21 = .ok (.iload_n 2, 1) := by decide +kernel
theorem dX1_placeDeclarations_22 : decode cX1_placeDeclarations 22 = .ok (.iaload, 1) := by decide +kernel
theorem dX1_placeDeclarations_23 : decode cX1_placeDeclarations 23 = .ok (.istore 4, 2) := by decide +kernel
theorem dX1_placeDeclarations_25 : decode cX1_placeDeclarations 25 = .ok (.aload_n 0, 1) := by decide +kernel
theorem dX1_placeDeclarations_26 : decode cX1_placeDeclarations 26 = .ok (.getfield 15, 3) := by decide +kernel
theorem dX1_placeDeclarations_29 : decode cX1_placeDeclarations 29 = .ok (.iload_n 3, 1) := by decide +kernel
theorem dX1_placeDeclarations_30 : decode cX1_placeDeclarations 30 = .ok (.bipush 26, 2) := by decide +kernel
theorem dX1_placeDeclarations_32 : decode cX1_placeDeclarations 32 = .ok (.imul, 1) := by decide +kernel
theorem dX1_placeDeclarations_33 : decode cX1_placeDeclarations 33 = .ok (.iload 4, 2) := by decide +kernel
theorem dX1_placeDeclarations_35 : decode cX1_placeDeclarations 35 = .ok (.iadd, 1) := by decide +kernel
theorem dX1_placeDeclarations_36 : decode cX1_placeDeclarations 36 = .ok (.iconst 1, 1) := by decide +kernel
theorem dX1_placeDeclarations_37 : decode cX1_placeDeclarations 37 = .ok (.iload_n 2, 1) := by decide +kernel
theorem dX1_placeDeclarations_38 : decode cX1_placeDeclarations 38 = .ok (.ishl, 1) := by decide +kernel
theorem dX1_placeDeclarations_39 : decode cX1_placeDeclarations 39 = .ok (.iastore, 1) := by decide +kernel
theorem dX1_placeDeclarations_40 : decode cX1_placeDeclarations 40 = .ok (.aload_n 0, 1) := by decide +kernel
theorem dX1_placeDeclarations_41 : decode cX1_placeDeclarations 41 = .ok (.getfield 27, 3) := by decide +kernel
theorem dX1_placeDeclarations_44 : decode cX1_placeDeclarations 44 = .ok (.iload_n 3, 1) := by decide +kernel
theorem dX1_placeDeclarations_45 : decode cX1_placeDeclarations 45 = .ok (.dup2, 1) := by decide +kernel
theorem dX1_placeDeclarations_46 : decode cX1_placeDeclarations 46 = .ok (.iaload, 1) := by decide +kernel
theorem dX1_placeDeclarations_47 : decode cX1_placeDeclarations 47 = .ok (.iconst 1, 1) := by decide +kernel
theorem dX1_placeDeclarations_48 : decode cX1_placeDeclarations 48 = .ok (.iload 4, 2) := by decide +kernel
theorem dX1_placeDeclarations_50 : decode cX1_placeDeclarations 50 = .ok (.ishl, 1) := by decide +kernel
theorem dX1_placeDeclarations_51 : decode cX1_placeDeclarations 51 = .ok (.ior, 1) := by decide +kernel
theorem dX1_placeDeclarations_52 : decode cX1_placeDeclarations 52 = .ok (.iastore, 1) := by decide +kernel
theorem dX1_placeDeclarations_53 : decode cX1_placeDeclarations 53 = .ok (.aload_n 1, 1) := by decide +kernel
theorem dX1_placeDeclarations_54 : decode cX1_placeDeclarations 54 = .ok (.getfield 48, 3) := by decide +kernel
theorem dX1_placeDeclarations_57 : decode cX1_placeDeclarations 57 = .ok (.iload_n 2, 1) := by decide +kernel
theorem dX1_placeDeclarations_58 : decode cX1_placeDeclarations 58 = .ok (.iaload, 1) := by decide +kernel
theorem dX1_placeDeclarations_59 : decode cX1_placeDeclarations 59 = .ok (.ifCond .eq 31, 3) := by decide +kernel
theorem dX1_placeDeclarations_62 : decode cX1_placeDeclarations 62 = .ok (.aload_n 0, 1) := by decide +kernel
theorem dX1_placeDeclarations_63 : decode cX1_placeDeclarations 63 = .ok (.getfield 9, 3) := by decide +kernel
theorem dX1_placeDeclarations_66 : decode cX1_placeDeclarations 66 = .ok (.iload_n 3, 1) := by decide +kernel
theorem dX1_placeDeclarations_67 : decode cX1_placeDeclarations 67 = .ok (.bipush 26, 2) := by decide +kernel
theorem dX1_placeDeclarations_69 : decode cX1_placeDeclarations 69 = .ok (.imul, 1) := by decide +kernel
theorem dX1_placeDeclarations_70 : decode cX1_placeDeclarations 70 = .ok (.iload 4, 2) := by decide +kernel
theorem dX1_placeDeclarations_72 : decode cX1_placeDeclarations 72 = .ok (.iadd, 1) := by decide +kernel
theorem dX1_placeDeclarations_73 : decode cX1_placeDeclarations 73 = .ok (.iconst 1, 1) := by decide +kernel
theorem dX1_placeDeclarations_74 : decode cX1_placeDeclarations 74 = .ok (.iload_n 2, 1) := by decide +kernel
theorem dX1_placeDeclarations_75 : decode cX1_placeDeclarations 75 = .ok (.ishl, 1) := by decide +kernel
theorem dX1_placeDeclarations_76 : decode cX1_placeDeclarations 76 = .ok (.iastore, 1) := by decide +kernel
theorem dX1_placeDeclarations_77 : decode cX1_placeDeclarations 77 = .ok (.aload_n 0, 1) := by decide +kernel
theorem dX1_placeDeclarations_78 : decode cX1_placeDeclarations 78 = .ok (.getfield 24, 3) := by decide +kernel
theorem dX1_placeDeclarations_81 : decode cX1_placeDeclarations 81 = .ok (.iload_n 3, 1) := by decide +kernel
theorem dX1_placeDeclarations_82 : decode cX1_placeDeclarations 82 = .ok (.dup2, 1) := by decide +kernel
theorem dX1_placeDeclarations_83 : decode cX1_placeDeclarations 83 = .ok (.iaload, 1) := by decide +kernel
theorem dX1_placeDeclarations_84 : decode cX1_placeDeclarations 84 = .ok (.iconst 1, 1) := by decide +kernel
theorem dX1_placeDeclarations_85 : decode cX1_placeDeclarations 85 = .ok (.iload 4, 2) := by decide +kernel
theorem dX1_placeDeclarations_87 : decode cX1_placeDeclarations 87 = .ok (.ishl, 1) := by decide +kernel
theorem dX1_placeDeclarations_88 : decode cX1_placeDeclarations 88 = .ok (.ior, 1) := by decide +kernel
theorem dX1_placeDeclarations_89 : decode cX1_placeDeclarations 89 = .ok (.iastore, 1) := by decide +kernel
theorem dX1_placeDeclarations_90 : decode cX1_placeDeclarations 90 = .ok (.iinc 2 1, 3) := by decide +kernel
theorem dX1_placeDeclarations_93 : decode cX1_placeDeclarations 93 = .ok (.goto (-91), 3) := by decide +kernel
theorem dX1_placeDeclarations_96 : decode cX1_placeDeclarations 96 = .ok (.return_, 1) := by decide +kernel
theorem dX1_passOnAll_0 : decode cX1_passOnAll 0 = .ok (.ldc 51, 2) := by decide +kernel
theorem dX1_passOnAll_2 : decode cX1_passOnAll 2 = .ok (.istore_n 2, 1) := by decide +kernel
theorem dX1_passOnAll_3 : decode cX1_passOnAll 3 = .ok (.iconst 0, 1) := by decide +kernel
theorem dX1_passOnAll_4 : decode cX1_passOnAll 4 = .ok (.istore_n 3, 1) := by decide +kernel
theorem dX1_passOnAll_5 : decode cX1_passOnAll 5 = .ok (.iload_n 3, 1) := by decide +kernel
theorem dX1_passOnAll_6 : decode cX1_passOnAll 6 = .ok (.sipush 12480, 3) := by decide +kernel
theorem dX1_passOnAll_9 : decode cX1_passOnAll 9 = .ok (.if_icmp .gt 100, 3) := by decide +kernel
theorem dX1_passOnAll_12 : decode cX1_passOnAll 12 = .ok (.iload_n 2, 1) := by decide +kernel
theorem dX1_passOnAll_13 : decode cX1_passOnAll 13 = .ok (.ifCond .eq 96, 3) := by decide +kernel
theorem dX1_passOnAll_16 : decode cX1_passOnAll 16 = .ok (.iconst 0, 1) := by decide +kernel
theorem dX1_passOnAll_17 : decode cX1_passOnAll 17 = .ok (.istore 4, 2) := by decide +kernel
theorem dX1_passOnAll_19 : decode cX1_passOnAll 19 = .ok (.iconst 0, 1) := by decide +kernel
theorem dX1_passOnAll_20 : decode cX1_passOnAll 20 = .ok (.istore 5, 2) := by decide +kernel
theorem dX1_passOnAll_22 : decode cX1_passOnAll 22 = .ok (.iload 5, 2) := by decide +kernel
theorem dX1_passOnAll_24 : decode cX1_passOnAll 24 = .ok (.aload_n 1, 1) := by decide +kernel
theorem dX1_passOnAll_25 : decode cX1_passOnAll 25 = .ok (.getfield 52, 3) := by decide +kernel
theorem dX1_passOnAll_28 : decode cX1_passOnAll 28 = .ok (.if_icmp .ge 72, 3) := by decide +kernel
theorem dX1_passOnAll_31 : decode cX1_passOnAll 31 = .ok (.iload_n 2, 1) := by decide +kernel
theorem dX1_passOnAll_32 : decode cX1_passOnAll 32 = .ok (.iload 4, 2) := by decide +kernel
theorem dX1_passOnAll_34 : decode cX1_passOnAll 34 = .ok (.ior, 1) := by decide +kernel
theorem dX1_passOnAll_35 : decode cX1_passOnAll 35 = .ok (.aload_n 1, 1) := by decide +kernel
theorem dX1_passOnAll_36 : decode cX1_passOnAll 36 = .ok (.getfield 55, 3) := by decide +kernel
theorem dX1_passOnAll_39 : decode cX1_passOnAll 39 = .ok (.iload 5, 2) := by decide +kernel
theorem dX1_passOnAll_41 : decode cX1_passOnAll 41 = .ok (.iaload, 1) := by decide +kernel
theorem dX1_passOnAll_42 : decode cX1_passOnAll 42 = .ok (.ishr, 1) := by decide +kernel
theorem dX1_passOnAll_43 : decode cX1_passOnAll 43 = .ok (.iconst 1, 1) := by decide +kernel
theorem dX1_passOnAll_44 : decode cX1_passOnAll 44 = .ok (.iand, 1) := by decide +kernel
theorem dX1_passOnAll_45 : decode cX1_passOnAll 45 = .ok (.ifCond .eq 7, 3) := by decide +kernel
theorem dX1_passOnAll_48 : decode cX1_passOnAll 48 = .ok (.iconst 1, 1) := by decide +kernel
theorem dX1_passOnAll_49 : decode cX1_passOnAll 49 = .ok (.goto 4, 3) := by decide +kernel
theorem dX1_passOnAll_52 : decode cX1_passOnAll 52 = .ok (.iconst 0, 1) := by decide +kernel
theorem dX1_passOnAll_53 : decode cX1_passOnAll 53 = .ok (.istore 6, 2) := by decide +kernel
theorem dX1_passOnAll_55 : decode cX1_passOnAll 55 = .ok (.iload 6, 2) := by decide +kernel
theorem dX1_passOnAll_57 : decode cX1_passOnAll 57 = .ok (.ifCond .eq 37, 3) := by decide +kernel
theorem dX1_passOnAll_60 : decode cX1_passOnAll 60 = .ok (.aload_n 1, 1) := by decide +kernel
theorem dX1_passOnAll_61 : decode cX1_passOnAll 61 = .ok (.getfield 58, 3) := by decide +kernel
theorem dX1_passOnAll_64 : decode cX1_passOnAll 64 = .ok (.iload 5, 2) := by decide +kernel
theorem dX1_passOnAll_66 : decode cX1_passOnAll 66 = .ok (.iaload, 1) := by decide +kernel
theorem dX1_passOnAll_67 : decode cX1_passOnAll 67 = .ok (.ifCond .eq 27, 3) := by decide +kernel
theorem dX1_passOnAll_70 : decode cX1_passOnAll 70 = .ok (.aload_n 0, 1) := by decide +kernel
theorem dX1_passOnAll_71 : decode cX1_passOnAll 71 = .ok (.aload_n 1, 1) := by decide +kernel
theorem dX1_passOnAll_72 : decode cX1_passOnAll 72 = .ok (.iload 5, 2) := by decide +kernel
theorem dX1_passOnAll_74 : decode cX1_passOnAll 74 = .ok (.invokevirtual 61, 3) := by decide +kernel
theorem dX1_passOnAll_77 : decode cX1_passOnAll 77 = .ok (.ifCond .eq 17, 3) := by decide +kernel
theorem dX1_passOnAll_80 : decode cX1_passOnAll 80 = .ok (.iload 4, 2) := by decide +kernel
theorem dX1_passOnAll_82 : decode cX1_passOnAll 82 = .ok (.iconst 1, 1) := by decide +kernel
theorem dX1_passOnAll_83 : decode cX1_passOnAll 83 = .ok (.aload_n 1, 1) := by decide +kernel
theorem dX1_passOnAll_84 : decode cX1_passOnAll 84 = .ok (.getfield 65, 3) := by decide +kernel
theorem dX1_passOnAll_87 : decode cX1_passOnAll 87 = .ok (.iload 5, 2) := by decide +kernel
theorem dX1_passOnAll_89 : decode cX1_passOnAll 89 = .ok (.iaload, 1) := by decide +kernel
theorem dX1_passOnAll_90 : decode cX1_passOnAll 90 = .ok (.ishl, 1) := by decide +kernel
theorem dX1_passOnAll_91 : decode cX1_passOnAll 91 = .ok (.ior, 1) := by decide +kernel
theorem dX1_passOnAll_92 : decode cX1_passOnAll 92 = .ok (.istore 4, 2) := by decide +kernel
theorem dX1_passOnAll_94 : decode cX1_passOnAll 94 = .ok (.iinc 5 1, 3) := by decide +kernel
theorem dX1_passOnAll_97 : decode cX1_passOnAll 97 = .ok (.goto (-75), 3) := by decide +kernel
theorem dX1_passOnAll_100 : decode cX1_passOnAll 100 = .ok (.iload 4, 2) := by decide +kernel
theorem dX1_passOnAll_102 : decode cX1_passOnAll 102 = .ok (.istore_n 2, 1) := by decide +kernel
theorem dX1_passOnAll_103 : decode cX1_passOnAll 103 = .ok (.iinc 3 1, 3) := by decide +kernel
theorem dX1_passOnAll_106 : decode cX1_passOnAll 106 = .ok (.goto (-101), 3) := by decide +kernel
theorem dX1_passOnAll_109 : decode cX1_passOnAll 109 = .ok (.return_, 1) := by decide +kernel
theorem dX1_passOn_0 : decode cX1_passOn 0 = .ok (.aload_n 1, 1) := by decide +kernel
theorem dX1_passOn_1 : decode cX1_passOn 1 = .ok (.getfield 65, 3) := by decide +kernel
theorem dX1_passOn_4 : decode cX1_passOn 4 = .ok (.iload_n 2, 1) := by decide +kernel
theorem dX1_passOn_5 : decode cX1_passOn 5 = .ok (.iaload, 1) := by decide +kernel
theorem dX1_passOn_6 : decode cX1_passOn 6 = .ok (.istore_n 3, 1) := by decide +kernel
theorem dX1_passOn_7 : decode cX1_passOn 7 = .ok (.aload_n 1, 1) := by decide +kernel
theorem dX1_passOn_8 : decode cX1_passOn 8 = .ok (.getfield 55, 3) := by decide +kernel
theorem dX1_passOn_11 : decode cX1_passOn 11 = .ok (.iload_n 2, 1) := by decide +kernel
theorem dX1_passOn_12 : decode cX1_passOn 12 = .ok (.iaload, 1) := by decide +kernel
theorem dX1_passOn_13 : decode cX1_passOn 13 = .ok (.istore 4, 2) := by decide +kernel
theorem dX1_passOn_15 : decode cX1_passOn 15 = .ok (.aload_n 1, 1) := by decide +kernel
theorem dX1_passOn_16 : decode cX1_passOn 16 = .ok (.getfield 68, 3) := by decide +kernel
theorem dX1_passOn_19 : decode cX1_passOn 19 = .ok (.iload_n 2, 1) := by decide +kernel
theorem dX1_passOn_20 : decode cX1_passOn 20 = .ok (.iaload, 1) := by decide +kernel
theorem dX1_passOn_21 : decode cX1_passOn 21 = .ok (.istore 5, 2) := by decide +kernel
theorem dX1_passOn_23 : decode cX1_passOn 23 = .ok (.aload_n 0, 1) := by decide +kernel
theorem dX1_passOn_24 : decode cX1_passOn 24 = .ok (.getfield 24, 3) := by decide +kernel
theorem dX1_passOn_27 : decode cX1_passOn 27 = .ok (.iload 4, 2) := by decide +kernel
theorem dX1_passOn_29 : decode cX1_passOn 29 = .ok (.iaload, 1) := by decide +kernel
theorem dX1_passOn_30 : decode cX1_passOn 30 = .ok (.iload 5, 2) := by decide +kernel
theorem dX1_passOn_32 : decode cX1_passOn 32 = .ok (.iconst (-1), 1) := by decide +kernel
theorem dX1_passOn_33 : decode cX1_passOn 33 = .ok (.if_icmp .eq 10, 3) := by decide +kernel
theorem dX1_passOn_36 : decode cX1_passOn 36 = .ok (.iconst 1, 1) := by decide +kernel
theorem dX1_passOn_37 : decode cX1_passOn 37 = .ok (.iload 5, 2) := by decide +kernel
theorem dX1_passOn_39 : decode cX1_passOn 39 = .ok (.ishl, 1) := by decide +kernel
theorem dX1_passOn_40 : decode cX1_passOn 40 = .ok (.goto 11, 3) := by decide +kernel
theorem dX1_passOn_43 : decode cX1_passOn 43 = .ok (.aload_n 1, 1) := by decide +kernel
theorem dX1_passOn_44 : decode cX1_passOn 44 = .ok (.getfield 71, 3) := by decide +kernel
theorem dX1_passOn_47 : decode cX1_passOn 47 = .ok (.iload_n 2, 1) := by decide +kernel
theorem dX1_passOn_48 : decode cX1_passOn 48 = .ok (.iaload, 1) := by decide +kernel
theorem dX1_passOn_49 : decode cX1_passOn 49 = .ok (.iconst (-1), 1) := by decide +kernel
theorem dX1_passOn_50 : decode cX1_passOn 50 = .ok (.ixor, 1) := by decide +kernel
theorem dX1_passOn_51 : decode cX1_passOn 51 = .ok (.iand, 1) := by decide +kernel
theorem dX1_passOn_52 : decode cX1_passOn 52 = .ok (.istore 6, 2) := by decide +kernel
theorem dX1_passOn_54 : decode cX1_passOn 54 = .ok (.iconst 0, 1) := by decide +kernel
theorem dX1_passOn_55 : decode cX1_passOn 55 = .ok (.istore 7, 2) := by decide +kernel
theorem dX1_passOn_57 : decode cX1_passOn 57 = .ok (.iconst 0, 1) := by decide +kernel
theorem dX1_passOn_58 : decode cX1_passOn 58 = .ok (.istore 8, 2) := by decide +kernel
theorem dX1_passOn_60 : decode cX1_passOn 60 = .ok (.iload 8, 2) := by decide +kernel
theorem dX1_passOn_62 : decode cX1_passOn 62 = .ok (.bipush 26, 2) := by decide +kernel
theorem dX1_passOn_64 : decode cX1_passOn 64 = .ok (.if_icmp .ge 136, 3) := by decide +kernel
theorem dX1_passOn_67 : decode cX1_passOn 67 = .ok (.iload 6, 2) := by decide +kernel
theorem dX1_passOn_69 : decode cX1_passOn 69 = .ok (.iload 8, 2) := by decide +kernel
theorem dX1_passOn_71 : decode cX1_passOn 71 = .ok (.ishr, 1) := by decide +kernel
theorem dX1_passOn_72 : decode cX1_passOn 72 = .ok (.ifCond .eq 128, 3) := by decide +kernel
theorem dX1_passOn_75 : decode cX1_passOn 75 = .ok (.iload 5, 2) := by decide +kernel
theorem dX1_passOn_77 : decode cX1_passOn 77 = .ok (.iconst (-1), 1) := by decide +kernel
theorem dX1_passOn_78 : decode cX1_passOn 78 = .ok (.if_icmp .eq 12, 3) := by decide +kernel
theorem dX1_passOn_81 : decode cX1_passOn 81 = .ok (.aload_n 1, 1) := by decide +kernel
theorem dX1_passOn_82 : decode cX1_passOn 82 = .ok (.getfield 74, 3) := by decide +kernel
theorem dX1_passOn_85 : decode cX1_passOn 85 = .ok (.iload_n 2, 1) := by decide +kernel
theorem dX1_passOn_86 : decode cX1_passOn 86 = .ok (.iaload, 1) := by decide +kernel
theorem dX1_passOn_87 : decode cX1_passOn 87 = .ok (.goto 5, 3) := by decide +kernel
theorem dX1_passOn_90 : decode cX1_passOn 90 = .ok (.iload 8, 2) := by decide +kernel
theorem dX1_passOn_92 : decode cX1_passOn 92 = .ok (.istore 9, 2) := by decide +kernel
theorem dX1_passOn_94 : decode cX1_passOn 94 = .ok (.iload 6, 2) := by decide +kernel
theorem dX1_passOn_96 : decode cX1_passOn 96 = .ok (.iload 8, 2) := by decide +kernel
theorem dX1_passOn_98 : decode cX1_passOn 98 = .ok (.ishr, 1) := by decide +kernel
theorem dX1_passOn_99 : decode cX1_passOn 99 = .ok (.iconst 1, 1) := by decide +kernel
theorem dX1_passOn_100 : decode cX1_passOn 100 = .ok (.iand, 1) := by decide +kernel
theorem dX1_passOn_101 : decode cX1_passOn 101 = .ok (.ifCond .eq 93, 3) := by decide +kernel
theorem dX1_passOn_104 : decode cX1_passOn 104 = .ok (.aload_n 0, 1) := by decide +kernel
theorem dX1_passOn_105 : decode cX1_passOn 105 = .ok (.getfield 27, 3) := by decide +kernel
theorem dX1_passOn_108 : decode cX1_passOn 108 = .ok (.iload_n 3, 1) := by decide +kernel
theorem dX1_passOn_109 : decode cX1_passOn 109 = .ok (.iaload, 1) := by decide +kernel
theorem dX1_passOn_110 : decode cX1_passOn 110 = .ok (.iload 9, 2) := by decide +kernel
theorem dX1_passOn_112 : decode cX1_passOn 112 = .ok (.ishr, 1) := by decide +kernel
theorem dX1_passOn_113 : decode cX1_passOn 113 = .ok (.iconst 1, 1) := by decide +kernel
theorem dX1_passOn_114 : decode cX1_passOn 114 = .ok (.iand, 1) := by decide +kernel
theorem dX1_passOn_115 : decode cX1_passOn 115 = .ok (.ifCond .ne 79, 3) := by decide +kernel
theorem dX1_passOn_118 : decode cX1_passOn 118 = .ok (.iload_n 3, 1) := by decide +kernel
theorem dX1_passOn_119 : decode cX1_passOn 119 = .ok (.bipush 26, 2) := by decide +kernel
theorem dX1_passOn_121 : decode cX1_passOn 121 = .ok (.imul, 1) := by decide +kernel
theorem dX1_passOn_122 : decode cX1_passOn 122 = .ok (.iload 9, 2) := by decide +kernel
theorem dX1_passOn_124 : decode cX1_passOn 124 = .ok (.iadd, 1) := by decide +kernel
theorem dX1_passOn_125 : decode cX1_passOn 125 = .ok (.istore 10, 2) := by decide +kernel
theorem dX1_passOn_127 : decode cX1_passOn 127 = .ok (.aload_n 0, 1) := by decide +kernel
theorem dX1_passOn_128 : decode cX1_passOn 128 = .ok (.getfield 9, 3) := by decide +kernel
theorem dX1_passOn_131 : decode cX1_passOn 131 = .ok (.iload 10, 2) := by decide +kernel
theorem dX1_passOn_133 : decode cX1_passOn 133 = .ok (.iaload, 1) := by decide +kernel
theorem dX1_passOn_134 : decode cX1_passOn 134 = .ok (.istore 11, 2) := by decide +kernel
theorem dX1_passOn_136 : decode cX1_passOn 136 = .ok (.aload_n 0, 1) := by decide +kernel
theorem dX1_passOn_137 : decode cX1_passOn 137 = .ok (.getfield 9, 3) := by decide +kernel
theorem dX1_passOn_140 : decode cX1_passOn 140 = .ok (.iload 10, 2) := by decide +kernel
theorem dX1_passOn_142 : decode cX1_passOn 142 = .ok (.dup2, 1) := by decide +kernel
theorem dX1_passOn_143 : decode cX1_passOn 143 = .ok (.iaload, 1) := by decide +kernel
theorem dX1_passOn_144 : decode cX1_passOn 144 = .ok (.aload_n 0, 1) := by decide +kernel
theorem dX1_passOn_145 : decode cX1_passOn 145 = .ok (.getfield 9, 3) := by decide +kernel
theorem dX1_passOn_148 : decode cX1_passOn 148 = .ok (.iload 4, 2) := by decide +kernel
theorem dX1_passOn_150 : decode cX1_passOn 150 = .ok (.bipush 26, 2) := by decide +kernel
theorem dX1_passOn_152 : decode cX1_passOn 152 = .ok (.imul, 1) := by decide +kernel
theorem dX1_passOn_153 : decode cX1_passOn 153 = .ok (.iload 8, 2) := by decide +kernel
theorem dX1_passOn_155 : decode cX1_passOn 155 = .ok (.iadd, 1) := by decide +kernel
theorem dX1_passOn_156 : decode cX1_passOn 156 = .ok (.iaload, 1) := by decide +kernel
theorem dX1_passOn_157 : decode cX1_passOn 157 = .ok (.ior, 1) := by decide +kernel
theorem dX1_passOn_158 : decode cX1_passOn 158 = .ok (.iastore, 1) := by decide +kernel
theorem dX1_passOn_159 : decode cX1_passOn 159 = .ok (.aload_n 0, 1) := by decide +kernel
theorem dX1_passOn_160 : decode cX1_passOn 160 = .ok (.getfield 24, 3) := by decide +kernel
theorem dX1_passOn_163 : decode cX1_passOn 163 = .ok (.iload_n 3, 1) := by decide +kernel
theorem dX1_passOn_164 : decode cX1_passOn 164 = .ok (.dup2, 1) := by decide +kernel
theorem dX1_passOn_165 : decode cX1_passOn 165 = .ok (.iaload, 1) := by decide +kernel
theorem dX1_passOn_166 : decode cX1_passOn 166 = .ok (.iconst 1, 1) := by decide +kernel
theorem dX1_passOn_167 : decode cX1_passOn 167 = .ok (.iload 9, 2) := by decide +kernel
theorem dX1_passOn_169 : decode cX1_passOn 169 = .ok (.ishl, 1) := by decide +kernel
theorem dX1_passOn_170 : decode cX1_passOn 170 = .ok (.ior, 1) := by decide +kernel
theorem dX1_passOn_171 : decode cX1_passOn 171 = .ok (.iastore, 1) := by decide +kernel
theorem dX1_passOn_172 : decode cX1_passOn 172 = .ok (.iload 7, 2) := by decide +kernel
theorem dX1_passOn_174 : decode cX1_passOn 174 = .ok (.aload_n 0, 1) := by decide +kernel
theorem dX1_passOn_175 : decode cX1_passOn 175 = .ok (.getfield 9, 3) := by decide +kernel
theorem dX1_passOn_178 : decode cX1_passOn 178 = .ok (.iload 10, 2) := by decide +kernel
theorem dX1_passOn_180 : decode cX1_passOn 180 = .ok (.iaload, 1) := by decide +kernel
theorem dX1_passOn_181 : decode cX1_passOn 181 = .ok (.iload 11, 2) := by decide +kernel
theorem dX1_passOn_183 : decode cX1_passOn 183 = .ok (.if_icmp .eq 7, 3) := by decide +kernel
theorem dX1_passOn_186 : decode cX1_passOn 186 = .ok (.iconst 1, 1) := by decide +kernel
theorem dX1_passOn_187 : decode cX1_passOn 187 = .ok (.goto 4, 3) := by decide +kernel
theorem dX1_passOn_190 : decode cX1_passOn 190 = .ok (.iconst 0, 1) := by decide +kernel
theorem dX1_passOn_191 : decode cX1_passOn 191 = .ok (.ior, 1) := by decide +kernel
theorem dX1_passOn_192 : decode cX1_passOn 192 = .ok (.istore 7, 2) := by decide +kernel
theorem dX1_passOn_194 : decode cX1_passOn 194 = .ok (.iinc 8 1, 3) := by decide +kernel
theorem dX1_passOn_197 : decode cX1_passOn 197 = .ok (.goto (-137), 3) := by decide +kernel
theorem dX1_passOn_200 : decode cX1_passOn 200 = .ok (.iload 7, 2) := by decide +kernel
theorem dX1_passOn_202 : decode cX1_passOn 202 = .ok (.ireturn, 1) := by decide +kernel
theorem dX1_bringAll_0 : decode cX1_bringAll 0 = .ok (.iconst 0, 1) := by decide +kernel
theorem dX1_bringAll_1 : decode cX1_bringAll 1 = .ok (.istore_n 2, 1) := by decide +kernel
theorem dX1_bringAll_2 : decode cX1_bringAll 2 = .ok (.iload_n 2, 1) := by decide +kernel
theorem dX1_bringAll_3 : decode cX1_bringAll 3 = .ok (.aload_n 1, 1) := by decide +kernel
theorem dX1_bringAll_4 : decode cX1_bringAll 4 = .ok (.getfield 52, 3) := by decide +kernel
theorem dX1_bringAll_7 : decode cX1_bringAll 7 = .ok (.if_icmp .ge 151, 3) := by decide +kernel
theorem dX1_bringAll_10 : decode cX1_bringAll 10 = .ok (.aload_n 1, 1) := by decide +kernel
theorem dX1_bringAll_11 : decode cX1_bringAll 11 = .ok (.getfield 65, 3) := by decide +kernel
theorem dX1_bringAll_14 : decode cX1_bringAll 14 = .ok (.iload_n 2, 1) := by decide +kernel
theorem dX1_bringAll_15 : decode cX1_bringAll 15 = .ok (.iaload, 1) := by decide +kernel
theorem dX1_bringAll_16 : decode cX1_bringAll 16 = .ok (.bipush 26, 2) := by decide +kernel
theorem dX1_bringAll_18 : decode cX1_bringAll 18 = .ok (.imul, 1) := by decide +kernel
theorem dX1_bringAll_19 : decode cX1_bringAll 19 = .ok (.istore_n 3, 1) := by decide +kernel
theorem dX1_bringAll_20 : decode cX1_bringAll 20 = .ok (.aload_n 1, 1) := by decide +kernel
theorem dX1_bringAll_21 : decode cX1_bringAll 21 = .ok (.getfield 55, 3) := by decide +kernel
theorem dX1_bringAll_24 : decode cX1_bringAll 24 = .ok (.iload_n 2, 1) := by decide +kernel
theorem dX1_bringAll_25 : decode cX1_bringAll 25 = .ok (.iaload, 1) := by decide +kernel
theorem dX1_bringAll_26 : decode cX1_bringAll 26 = .ok (.bipush 26, 2) := by decide +kernel
theorem dX1_bringAll_28 : decode cX1_bringAll 28 = .ok (.imul, 1) := by decide +kernel
theorem dX1_bringAll_29 : decode cX1_bringAll 29 = .ok (.istore 4, 2) := by decide +kernel
theorem dX1_bringAll_31 : decode cX1_bringAll 31 = .ok (.aload_n 1, 1) := by decide +kernel
theorem dX1_bringAll_32 : decode cX1_bringAll 32 = .ok (.getfield 68, 3) := by decide +kernel
theorem dX1_bringAll_35 : decode cX1_bringAll 35 = .ok (.iload_n 2, 1) := by decide +kernel
theorem dX1_bringAll_36 : decode cX1_bringAll 36 = .ok (.iaload, 1) := by decide +kernel
theorem dX1_bringAll_37 : decode cX1_bringAll 37 = .ok (.iconst (-1), 1) := by decide +kernel
theorem dX1_bringAll_38 : decode cX1_bringAll 38 = .ok (.if_icmp .eq 36, 3) := by decide +kernel
theorem dX1_bringAll_41 : decode cX1_bringAll 41 = .ok (.aload_n 0, 1) := by decide +kernel
theorem dX1_bringAll_42 : decode cX1_bringAll 42 = .ok (.getfield 18, 3) := by decide +kernel
theorem dX1_bringAll_45 : decode cX1_bringAll 45 = .ok (.iload_n 3, 1) := by decide +kernel
theorem dX1_bringAll_46 : decode cX1_bringAll 46 = .ok (.aload_n 1, 1) := by decide +kernel
theorem dX1_bringAll_47 : decode cX1_bringAll 47 = .ok (.getfield 74, 3) := by decide +kernel
theorem dX1_bringAll_50 : decode cX1_bringAll 50 = .ok (.iload_n 2, 1) := by decide +kernel
theorem dX1_bringAll_51 : decode cX1_bringAll 51 = .ok (.iaload, 1) := by decide +kernel
theorem dX1_bringAll_52 : decode cX1_bringAll 52 = .ok (.iadd, 1) := by decide +kernel
theorem dX1_bringAll_53 : decode cX1_bringAll 53 = .ok (.dup2, 1) := by decide +kernel
theorem dX1_bringAll_54 : decode cX1_bringAll 54 = .ok (.iaload, 1) := by decide +kernel
theorem dX1_bringAll_55 : decode cX1_bringAll 55 = .ok (.aload_n 0, 1) := by decide +kernel
theorem dX1_bringAll_56 : decode cX1_bringAll 56 = .ok (.getfield 9, 3) := by decide +kernel
theorem dX1_bringAll_59 : decode cX1_bringAll 59 = .ok (.iload 4, 2) := by decide +kernel
theorem dX1_bringAll_61 : decode cX1_bringAll 61 = .ok (.aload_n 1, 1) := by decide +kernel
theorem dX1_bringAll_62 : decode cX1_bringAll 62 = .ok (.getfield 68, 3) := by decide +kernel
theorem dX1_bringAll_65 : decode cX1_bringAll 65 = .ok (.iload_n 2, 1) := by decide +kernel
theorem dX1_bringAll_66 : decode cX1_bringAll 66 = .ok (.iaload, 1) := by decide +kernel
theorem dX1_bringAll_67 : decode cX1_bringAll 67 = .ok (.iadd, 1) := by decide +kernel
theorem dX1_bringAll_68 : decode cX1_bringAll 68 = .ok (.iaload, 1) := by decide +kernel
theorem dX1_bringAll_69 : decode cX1_bringAll 69 = .ok (.ior, 1) := by decide +kernel
theorem dX1_bringAll_70 : decode cX1_bringAll 70 = .ok (.iastore, 1) := by decide +kernel
theorem dX1_bringAll_71 : decode cX1_bringAll 71 = .ok (.goto 81, 3) := by decide +kernel
theorem dX1_bringAll_74 : decode cX1_bringAll 74 = .ok (.aload_n 0, 1) := by decide +kernel
theorem dX1_bringAll_75 : decode cX1_bringAll 75 = .ok (.getfield 24, 3) := by decide +kernel
theorem dX1_bringAll_78 : decode cX1_bringAll 78 = .ok (.aload_n 1, 1) := by decide +kernel
theorem dX1_bringAll_79 : decode cX1_bringAll 79 = .ok (.getfield 55, 3) := by decide +kernel
theorem dX1_bringAll_82 : decode cX1_bringAll 82 = .ok (.iload_n 2, 1) := by decide +kernel
theorem dX1_bringAll_83 : decode cX1_bringAll 83 = .ok (.iaload, 1) := by decide +kernel
theorem dX1_bringAll_84 : decode cX1_bringAll 84 = .ok (.iaload, 1) := by decide +kernel
theorem dX1_bringAll_85 : decode cX1_bringAll 85 = .ok (.aload_n 1, 1) := by decide +kernel
theorem dX1_bringAll_86 : decode cX1_bringAll 86 = .ok (.getfield 71, 3) := by decide +kernel
theorem dX1_bringAll_89 : decode cX1_bringAll 89 = .ok (.iload_n 2, 1) := by decide +kernel
theorem dX1_bringAll_90 : decode cX1_bringAll 90 = .ok (.iaload, 1) := by decide +kernel
theorem dX1_bringAll_91 : decode cX1_bringAll 91 = .ok (.iconst (-1), 1) := by decide +kernel
theorem dX1_bringAll_92 : decode cX1_bringAll 92 = .ok (.ixor, 1) := by decide +kernel
theorem dX1_bringAll_93 : decode cX1_bringAll 93 = .ok (.iand, 1) := by decide +kernel
theorem dX1_bringAll_94 : decode cX1_bringAll 94 = .ok (.istore 5, 2) := by decide +kernel
theorem dX1_bringAll_96 : decode cX1_bringAll 96 = .ok (.iconst 0, 1) := by decide +kernel
theorem dX1_bringAll_97 : decode cX1_bringAll 97 = .ok (.istore 6, 2) := by decide +kernel
theorem dX1_bringAll_99 : decode cX1_bringAll 99 = .ok (.iload 6, 2) := by decide +kernel
theorem dX1_bringAll_101 : decode cX1_bringAll 101 = .ok (.bipush 26, 2) := by decide +kernel
theorem dX1_bringAll_103 : decode cX1_bringAll 103 = .ok (.if_icmp .ge 49, 3) := by decide +kernel
theorem dX1_bringAll_106 : decode cX1_bringAll 106 = .ok (.iload 5, 2) := by decide +kernel
theorem dX1_bringAll_108 : decode cX1_bringAll 108 = .ok (.iload 6, 2) := by decide +kernel
theorem dX1_bringAll_110 : decode cX1_bringAll 110 = .ok (.ishr, 1) := by decide +kernel
theorem dX1_bringAll_111 : decode cX1_bringAll 111 = .ok (.ifCond .eq 41, 3) := by decide +kernel
theorem dX1_bringAll_114 : decode cX1_bringAll 114 = .ok (.iload 5, 2) := by decide +kernel
theorem dX1_bringAll_116 : decode cX1_bringAll 116 = .ok (.iload 6, 2) := by decide +kernel
theorem dX1_bringAll_118 : decode cX1_bringAll 118 = .ok (.ishr, 1) := by decide +kernel
theorem dX1_bringAll_119 : decode cX1_bringAll 119 = .ok (.iconst 1, 1) := by decide +kernel
theorem dX1_bringAll_120 : decode cX1_bringAll 120 = .ok (.iand, 1) := by decide +kernel
theorem dX1_bringAll_121 : decode cX1_bringAll 121 = .ok (.ifCond .eq 25, 3) := by decide +kernel
theorem dX1_bringAll_124 : decode cX1_bringAll 124 = .ok (.aload_n 0, 1) := by decide +kernel
theorem dX1_bringAll_125 : decode cX1_bringAll 125 = .ok (.getfield 21, 3) := by decide +kernel
theorem dX1_bringAll_128 : decode cX1_bringAll 128 = .ok (.iload_n 3, 1) := by decide +kernel
theorem dX1_bringAll_129 : decode cX1_bringAll 129 = .ok (.iload 6, 2) := by decide +kernel
theorem dX1_bringAll_131 : decode cX1_bringAll 131 = .ok (.iadd, 1) := by decide +kernel
theorem dX1_bringAll_132 : decode cX1_bringAll 132 = .ok (.dup2, 1) := by decide +kernel
theorem dX1_bringAll_133 : decode cX1_bringAll 133 = .ok (.iaload, 1) := by decide +kernel
theorem dX1_bringAll_134 : decode cX1_bringAll 134 = .ok (.aload_n 0, 1) := by decide +kernel
theorem dX1_bringAll_135 : decode cX1_bringAll 135 = .ok (.getfield 9, 3) := by decide +kernel
theorem dX1_bringAll_138 : decode cX1_bringAll 138 = .ok (.iload 4, 2) := by decide +kernel
theorem dX1_bringAll_140 : decode cX1_bringAll 140 = .ok (.iload 6, 2) := by decide +kernel
theorem dX1_bringAll_142 : decode cX1_bringAll 142 = .ok (.iadd, 1) := by decide +kernel
theorem dX1_bringAll_143 : decode cX1_bringAll 143 = .ok (.iaload, 1) := by decide +kernel
theorem dX1_bringAll_144 : decode cX1_bringAll 144 = .ok (.ior, 1) := by decide +kernel
theorem dX1_bringAll_145 : decode cX1_bringAll 145 = .ok (.iastore, 1) := by decide +kernel
theorem dX1_bringAll_146 : decode cX1_bringAll 146 = .ok (.iinc 6 1, 3) := by decide +kernel
theorem dX1_bringAll_149 : decode cX1_bringAll 149 = .ok (.goto (-50), 3) := by decide +kernel
theorem dX1_bringAll_152 : decode cX1_bringAll 152 = .ok (.iinc 2 1, 3) := by decide +kernel
theorem dX1_bringAll_155 : decode cX1_bringAll 155 = .ok (.goto (-153), 3) := by decide +kernel
theorem dX1_bringAll_158 : decode cX1_bringAll 158 = .ok (.return_, 1) := by decide +kernel
theorem dX2_init_0 : decode cX2_init 0 = .ok (.aload_n 0, 1) := by decide +kernel
theorem dX2_init_1 : decode cX2_init 1 = .ok (.invokespecial 3, 3) := by decide +kernel
theorem dX2_init_4 : decode cX2_init 4 = .ok (.aload_n 0, 1) := by decide +kernel
theorem dX2_init_5 : decode cX2_init 5 = .ok (.bipush 50, 2) := by decide +kernel
theorem dX2_init_7 : decode cX2_init 7 = .ok (.newarray .int, 2) := by decide +kernel
theorem dX2_init_9 : decode cX2_init 9 = .ok (.putfield 9, 3) := by decide +kernel
theorem dX2_init_12 : decode cX2_init 12 = .ok (.aload_n 0, 1) := by decide +kernel
theorem dX2_init_13 : decode cX2_init 13 = .ok (.iconst 0, 1) := by decide +kernel
theorem dX2_init_14 : decode cX2_init 14 = .ok (.putfield 15, 3) := by decide +kernel
theorem dX2_init_17 : decode cX2_init 17 = .ok (.return_, 1) := by decide +kernel
theorem dX2_put_0 : decode cX2_put 0 = .ok (.aload_n 0, 1) := by decide +kernel
theorem dX2_put_1 : decode cX2_put 1 = .ok (.getfield 15, 3) := by decide +kernel
theorem dX2_put_4 : decode cX2_put 4 = .ok (.bipush 50, 2) := by decide +kernel
theorem dX2_put_6 : decode cX2_put 6 = .ok (.if_icmp .ge 23, 3) := by decide +kernel
theorem dX2_put_9 : decode cX2_put 9 = .ok (.aload_n 0, 1) := by decide +kernel
theorem dX2_put_10 : decode cX2_put 10 = .ok (.getfield 9, 3) := by decide +kernel
theorem dX2_put_13 : decode cX2_put 13 = .ok (.aload_n 0, 1) := by decide +kernel
theorem dX2_put_14 : decode cX2_put 14 = .ok (.getfield 15, 3) := by decide +kernel
theorem dX2_put_17 : decode cX2_put 17 = .ok (.iload_n 1, 1) := by decide +kernel
theorem dX2_put_18 : decode cX2_put 18 = .ok (.iastore, 1) := by decide +kernel
theorem dX2_put_19 : decode cX2_put 19 = .ok (.aload_n 0, 1) := by decide +kernel
theorem dX2_put_20 : decode cX2_put 20 = .ok (.dup, 1) := by decide +kernel
theorem dX2_put_21 : decode cX2_put 21 = .ok (.getfield 15, 3) := by decide +kernel
theorem dX2_put_24 : decode cX2_put 24 = .ok (.iconst 1, 1) := by decide +kernel
theorem dX2_put_25 : decode cX2_put 25 = .ok (.iadd, 1) := by decide +kernel
theorem dX2_put_26 : decode cX2_put 26 = .ok (.putfield 15, 3) := by decide +kernel
theorem dX2_put_29 : decode cX2_put 29 = .ok (.aload_n 0, 1) := by decide +kernel
theorem dX2_put_30 : decode cX2_put 30 = .ok (.getfield 15, 3) := by decide +kernel
theorem dX2_put_33 : decode cX2_put 33 = .ok (.ireturn, 1) := by decide +kernel
theorem dX2_codeAt_0 : decode cX2_codeAt 0 = .ok (.iload_n 1, 1) := by decide +kernel
theorem dX2_codeAt_1 : decode cX2_codeAt 1 = .ok (.ifCond .lt 20, 3) := by decide +kernel
theorem dX2_codeAt_4 : decode cX2_codeAt 4 = .ok (.iload_n 1, 1) := by decide +kernel
theorem dX2_codeAt_5 : decode cX2_codeAt 5 = .ok (.aload_n 0, 1) := by decide +kernel
theorem dX2_codeAt_6 : decode cX2_codeAt 6 = .ok (.getfield 15, 3) := by decide +kernel
theorem dX2_codeAt_9 : decode cX2_codeAt 9 = .ok (.if_icmp .ge 12, 3) := by decide +kernel
theorem dX2_codeAt_12 : decode cX2_codeAt 12 = .ok (.aload_n 0, 1) := by decide +kernel
theorem dX2_codeAt_13 : decode cX2_codeAt 13 = .ok (.getfield 9, 3) := by decide +kernel
theorem dX2_codeAt_16 : decode cX2_codeAt 16 = .ok (.iload_n 1, 1) := by decide +kernel
theorem dX2_codeAt_17 : decode cX2_codeAt 17 = .ok (.iaload, 1) := by decide +kernel
theorem dX2_codeAt_18 : decode cX2_codeAt 18 = .ok (.goto 4, 3) := by decide +kernel
theorem dX2_codeAt_21 : decode cX2_codeAt 21 = .ok (.iconst 0, 1) := by decide +kernel
theorem dX2_codeAt_22 : decode cX2_codeAt 22 = .ok (.ireturn, 1) := by decide +kernel
theorem dX2_firstWrong_0 : decode cX2_firstWrong 0 = .ok (.iconst 1, 1) := by decide +kernel
theorem dX2_firstWrong_1 : decode cX2_firstWrong 1 = .ok (.istore_n 1, 1) := by decide +kernel
theorem dX2_firstWrong_2 : decode cX2_firstWrong 2 = .ok (.iconst 0, 1) := by decide +kernel
theorem dX2_firstWrong_3 : decode cX2_firstWrong 3 = .ok (.istore_n 2, 1) := by decide +kernel
theorem dX2_firstWrong_4 : decode cX2_firstWrong 4 = .ok (.iload_n 2, 1) := by decide +kernel
theorem dX2_firstWrong_5 : decode cX2_firstWrong 5 = .ok (.aload_n 0, 1) := by decide +kernel
theorem dX2_firstWrong_6 : decode cX2_firstWrong 6 = .ok (.getfield 15, 3) := by decide +kernel
theorem dX2_firstWrong_9 : decode cX2_firstWrong 9 = .ok (.if_icmp .ge 26, 3) := by decide +kernel
theorem dX2_firstWrong_12 : decode cX2_firstWrong 12 = .ok (.iload_n 1, 1) := by decide +kernel
theorem dX2_firstWrong_13 : decode cX2_firstWrong 13 = .ok (.aload_n 0, 1) := by decide +kernel
theorem dX2_firstWrong_14 : decode cX2_firstWrong 14 = .ok (.getfield 9, 3) := by decide +kernel
theorem dX2_firstWrong_17 : decode cX2_firstWrong 17 = .ok (.iload_n 2, 1) := by decide +kernel
theorem dX2_firstWrong_18 : decode cX2_firstWrong 18 = .ok (.iaload, 1) := by decide +kernel
theorem dX2_firstWrong_19 : decode cX2_firstWrong 19 = .ok (.invokestatic 19, 3) := by decide +kernel
theorem dX2_firstWrong_22 : decode cX2_firstWrong 22 = .ok (.istore_n 1, 1) := by decide +kernel
theorem dX2_firstWrong_23 : decode cX2_firstWrong 23 = .ok (.iload_n 1, 1) := by decide +kernel
theorem dX2_firstWrong_24 : decode cX2_firstWrong 24 = .ok (.ifCond .ne 5, 3) := by decide +kernel
theorem dX2_firstWrong_27 : decode cX2_firstWrong 27 = .ok (.iload_n 2, 1) := by decide +kernel
theorem dX2_firstWrong_28 : decode cX2_firstWrong 28 = .ok (.ireturn, 1) := by decide +kernel
theorem dX2_firstWrong_29 : decode cX2_firstWrong 29 = .ok (.iinc 2 1, 3) := by decide +kernel
theorem dX2_firstWrong_32 : decode cX2_firstWrong 32 = .ok (.goto (-28), 3) := by decide +kernel
theorem dX2_firstWrong_35 : decode cX2_firstWrong 35 = .ok (.aload_n 0, 1) := by decide +kernel
theorem dX2_firstWrong_36 : decode cX2_firstWrong 36 = .ok (.getfield 15, 3) := by decide +kernel
theorem dX2_firstWrong_39 : decode cX2_firstWrong 39 = .ok (.ireturn, 1) := by decide +kernel
theorem dX2_isComplete_0 : decode cX2_isComplete 0 = .ok (.iconst 1, 1) := by decide +kernel
theorem dX2_isComplete_1 : decode cX2_isComplete 1 = .ok (.istore_n 1, 1) := by decide +kernel
theorem dX2_isComplete_2 : decode cX2_isComplete 2 = .ok (.iconst 0, 1) := by decide +kernel
theorem dX2_isComplete_3 : decode cX2_isComplete 3 = .ok (.istore_n 2, 1) := by decide +kernel
theorem dX2_isComplete_4 : decode cX2_isComplete 4 = .ok (.iload_n 2, 1) := by decide +kernel
theorem dX2_isComplete_5 : decode cX2_isComplete 5 = .ok (.aload_n 0, 1) := by decide +kernel
theorem dX2_isComplete_6 : decode cX2_isComplete 6 = .ok (.getfield 15, 3) := by decide +kernel
theorem dX2_isComplete_9 : decode cX2_isComplete 9 = .ok (.if_icmp .ge 20, 3) := by decide +kernel
theorem dX2_isComplete_12 : decode cX2_isComplete 12 = .ok (.iload_n 1, 1) := by decide +kernel
theorem dX2_isComplete_13 : decode cX2_isComplete 13 = .ok (.aload_n 0, 1) := by decide +kernel
theorem dX2_isComplete_14 : decode cX2_isComplete 14 = .ok (.getfield 9, 3) := by decide +kernel
theorem dX2_isComplete_17 : decode cX2_isComplete 17 = .ok (.iload_n 2, 1) := by decide +kernel
theorem dX2_isComplete_18 : decode cX2_isComplete 18 = .ok (.iaload, 1) := by decide +kernel
theorem dX2_isComplete_19 : decode cX2_isComplete 19 = .ok (.invokestatic 19, 3) := by decide +kernel
theorem dX2_isComplete_22 : decode cX2_isComplete 22 = .ok (.istore_n 1, 1) := by decide +kernel
theorem dX2_isComplete_23 : decode cX2_isComplete 23 = .ok (.iinc 2 1, 3) := by decide +kernel
theorem dX2_isComplete_26 : decode cX2_isComplete 26 = .ok (.goto (-22), 3) := by decide +kernel
theorem dX2_isComplete_29 : decode cX2_isComplete 29 = .ok (.iload_n 1, 1) := by decide +kernel
theorem dX2_isComplete_30 : decode cX2_isComplete 30 = .ok (.iconst 4, 1) := by decide +kernel
theorem dX2_isComplete_31 : decode cX2_isComplete 31 = .ok (.if_icmp .eq 21, 3) := by decide +kernel
theorem dX2_isComplete_34 : decode cX2_isComplete 34 = .ok (.iload_n 1, 1) := by decide +kernel
theorem dX2_isComplete_35 : decode cX2_isComplete 35 = .ok (.bipush 7, 2) := by decide +kernel
theorem dX2_isComplete_37 : decode cX2_isComplete 37 = .ok (.if_icmp .eq 15, 3) := by decide +kernel
theorem dX2_isComplete_40 : decode cX2_isComplete 40 = .ok (.iload_n 1, 1) := by decide +kernel
theorem dX2_isComplete_41 : decode cX2_isComplete 41 = .ok (.bipush 9, 2) := by decide +kernel
theorem dX2_isComplete_43 : decode cX2_isComplete 43 = .ok (.if_icmp .eq 9, 3) := by decide +kernel
theorem dX2_isComplete_46 : decode cX2_isComplete 46 = .ok (.iload_n 1, 1) := by decide +kernel
theorem dX2_isComplete_47 : decode cX2_isComplete 47 = .ok (.bipush 11, 2) := by decide +kernel
theorem dX2_isComplete_49 : decode cX2_isComplete 49 = .ok (.if_icmp .ne 7, 3) := by decide +kernel
theorem dX2_isComplete_52 : decode cX2_isComplete 52 = .ok (.iconst 1, 1) := by decide +kernel
theorem dX2_isComplete_53 : decode cX2_isComplete 53 = .ok (.goto 4, 3) := by decide +kernel
theorem dX2_isComplete_56 : decode cX2_isComplete 56 = .ok (.iconst 0, 1) := by decide +kernel
theorem dX2_isComplete_57 : decode cX2_isComplete 57 = .ok (.ireturn, 1) := by decide +kernel
theorem dX2_after_0 : decode cX2_after 0 = .ok (.iload_n 1, 1) := by decide +kernel
theorem dX2_after_1 : decode cX2_after 1 = .ok (.bipush 65, 2) := by decide +kernel
theorem dX2_after_3 : decode cX2_after 3 = .ok (.if_icmp .lt 13, 3) := by decide +kernel
theorem dX2_after_6 : decode cX2_after 6 = .ok (.iload_n 1, 1) := by decide +kernel
theorem dX2_after_7 : decode cX2_after 7 = .ok (.bipush 80, 2) := by decide +kernel
theorem dX2_after_9 : decode cX2_after 9 = .ok (.if_icmp .gt 7, 3) := by decide +kernel
theorem dX2_after_12 : decode cX2_after 12 = .ok (.iconst 1, 1) := by decide +kernel
theorem dX2_after_13 : decode cX2_after 13 = .ok (.goto 4, 3) := by decide +kernel
theorem dX2_after_16 : decode cX2_after 16 = .ok (.iconst 0, 1) := by decide +kernel
theorem dX2_after_17 : decode cX2_after 17 = .ok (.istore_n 2, 1) := by decide +kernel
theorem dX2_after_18 : decode cX2_after 18 = .ok (.iload_n 1, 1) := by decide +kernel
theorem dX2_after_19 : decode cX2_after 19 = .ok (.bipush 97, 2) := by decide +kernel
theorem dX2_after_21 : decode cX2_after 21 = .ok (.if_icmp .lt 13, 3) := by decide +kernel
theorem dX2_after_24 : decode cX2_after 24 = .ok (.iload_n 1, 1) := by decide +kernel
theorem dX2_after_25 : decode cX2_after 25 = .ok (.bipush 122, 2) := by decide +kernel
theorem dX2_after_27 : decode cX2_after 27 = .ok (.if_icmp .gt 7, 3) := by decide +kernel
theorem dX2_after_30 : decode cX2_after 30 = .ok (.iconst 1, 1) := by decide +kernel
theorem dX2_after_31 : decode cX2_after 31 = .ok (.goto 4, 3) := by decide +kernel
theorem dX2_after_34 : decode cX2_after 34 = .ok (.iconst 0, 1) := by decide +kernel
theorem dX2_after_35 : decode cX2_after 35 = .ok (.istore_n 3, 1) := by decide +kernel
theorem dX2_after_36 : decode cX2_after 36 = .ok (.iload_n 0, 1) := by decide +kernel
theorem dX2_after_37 : decode cX2_after 37 = .ok (.tableswitch 228 1 11 #[59, 69, 74, 84, 96, 118, 129, 163, 174, 196, 207], 59) := by decide +kernel
theorem dX2_after_96 : decode cX2_after 96 = .ok (.iload_n 2, 1) := by decide +kernel
theorem dX2_after_97 : decode cX2_after 97 = .ok (.ifCond .eq 7, 3) := by decide +kernel
theorem dX2_after_100 : decode cX2_after 100 = .ok (.iconst 2, 1) := by decide +kernel
theorem dX2_after_101 : decode cX2_after 101 = .ok (.goto 4, 3) := by decide +kernel
theorem dX2_after_104 : decode cX2_after 104 = .ok (.iconst 0, 1) := by decide +kernel
theorem dX2_after_105 : decode cX2_after 105 = .ok (.ireturn, 1) := by decide +kernel
theorem dX2_after_106 : decode cX2_after 106 = .ok (.iload_n 1, 1) := by decide +kernel
theorem dX2_after_107 : decode cX2_after 107 = .ok (.invokestatic 23, 3) := by decide +kernel
theorem dX2_after_110 : decode cX2_after 110 = .ok (.ireturn, 1) := by decide +kernel
theorem dX2_after_111 : decode cX2_after 111 = .ok (.iload_n 3, 1) := by decide +kernel
theorem dX2_after_112 : decode cX2_after 112 = .ok (.ifCond .eq 7, 3) := by decide +kernel
theorem dX2_after_115 : decode cX2_after 115 = .ok (.iconst 4, 1) := by decide +kernel
theorem dX2_after_116 : decode cX2_after 116 = .ok (.goto 4, 3) := by decide +kernel
theorem dX2_after_119 : decode cX2_after 119 = .ok (.iconst 0, 1) := by decide +kernel
theorem dX2_after_120 : decode cX2_after 120 = .ok (.ireturn, 1) := by decide +kernel
theorem dX2_after_121 : decode cX2_after 121 = .ok (.iload_n 1, 1) := by decide +kernel
theorem dX2_after_122 : decode cX2_after 122 = .ok (.bipush 44, 2) := by decide +kernel
theorem dX2_after_124 : decode cX2_after 124 = .ok (.if_icmp .ne 7, 3) := by decide +kernel
theorem dX2_after_127 : decode cX2_after 127 = .ok (.iconst 1, 1) := by decide +kernel
theorem dX2_after_128 : decode cX2_after 128 = .ok (.goto 4, 3) := by decide +kernel
theorem dX2_after_131 : decode cX2_after 131 = .ok (.iconst 0, 1) := by decide +kernel
theorem dX2_after_132 : decode cX2_after 132 = .ok (.ireturn, 1) := by decide +kernel
theorem dX2_after_133 : decode cX2_after 133 = .ok (.iload_n 1, 1) := by decide +kernel
theorem dX2_after_134 : decode cX2_after 134 = .ok (.bipush 60, 2) := by decide +kernel
theorem dX2_after_136 : decode cX2_after 136 = .ok (.if_icmp .ne 8, 3) := by decide +kernel
theorem dX2_after_139 : decode cX2_after 139 = .ok (.bipush 6, 2) := by decide +kernel
theorem dX2_after_141 : decode cX2_after 141 = .ok (.goto 13, 3) := by decide +kernel
theorem dX2_after_144 : decode cX2_after 144 = .ok (.iload_n 2, 1) := by decide +kernel
theorem dX2_after_145 : decode cX2_after 145 = .ok (.ifCond .eq 8, 3) := by decide +kernel
theorem dX2_after_148 : decode cX2_after 148 = .ok (.bipush 7, 2) := by decide +kernel
theorem dX2_after_150 : decode cX2_after 150 = .ok (.goto 4, 3) := by decide +kernel
theorem dX2_after_153 : decode cX2_after 153 = .ok (.iconst 0, 1) := by decide +kernel
theorem dX2_after_154 : decode cX2_after 154 = .ok (.ireturn, 1) := by decide +kernel
theorem dX2_after_155 : decode cX2_after 155 = .ok (.iload_n 2, 1) := by decide +kernel
theorem dX2_after_156 : decode cX2_after 156 = .ok (.ifCond .eq 8, 3) := by decide +kernel
theorem dX2_after_159 : decode cX2_after 159 = .ok (.bipush 7, 2) := by decide +kernel
theorem dX2_after_161 : decode cX2_after 161 = .ok (.goto 4, 3) := by decide +kernel
theorem dX2_after_164 : decode cX2_after 164 = .ok (.iconst 0, 1) := by decide +kernel
theorem dX2_after_165 : decode cX2_after 165 = .ok (.ireturn, 1) := by decide +kernel
theorem dX2_after_166 : decode cX2_after 166 = .ok (.iload_n 1, 1) := by decide +kernel
theorem dX2_after_167 : decode cX2_after 167 = .ok (.bipush 46, 2) := by decide +kernel
theorem dX2_after_169 : decode cX2_after 169 = .ok (.if_icmp .ne 8, 3) := by decide +kernel
theorem dX2_after_172 : decode cX2_after 172 = .ok (.bipush 8, 2) := by decide +kernel
theorem dX2_after_174 : decode cX2_after 174 = .ok (.goto 25, 3) := by decide +kernel
theorem dX2_after_177 : decode cX2_after 177 = .ok (.iload_n 1, 1) := by decide +kernel
theorem dX2_after_178 : decode cX2_after 178 = .ok (.bipush 47, 2) := by decide +kernel
theorem dX2_after_180 : decode cX2_after 180 = .ok (.if_icmp .ne 8, 3) := by decide +kernel
theorem dX2_after_183 : decode cX2_after 183 = .ok (.bipush 10, 2) := by decide +kernel
theorem dX2_after_185 : decode cX2_after 185 = .ok (.goto 14, 3) := by decide +kernel
theorem dX2_after_188 : decode cX2_after 188 = .ok (.iload_n 1, 1) := by decide +kernel
theorem dX2_after_189 : decode cX2_after 189 = .ok (.bipush 44, 2) := by decide +kernel
theorem dX2_after_191 : decode cX2_after 191 = .ok (.if_icmp .ne 7, 3) := by decide +kernel
theorem dX2_after_194 : decode cX2_after 194 = .ok (.iconst 1, 1) := by decide +kernel
theorem dX2_after_195 : decode cX2_after 195 = .ok (.goto 4, 3) := by decide +kernel
theorem dX2_after_198 : decode cX2_after 198 = .ok (.iconst 0, 1) := by decide +kernel
theorem dX2_after_199 : decode cX2_after 199 = .ok (.ireturn, 1) := by decide +kernel
theorem dX2_after_200 : decode cX2_after 200 = .ok (.iload_n 3, 1) := by decide +kernel
theorem dX2_after_201 : decode cX2_after 201 = .ok (.ifCond .eq 8, 3) := by decide +kernel
theorem dX2_after_204 : decode cX2_after 204 = .ok (.bipush 9, 2) := by decide +kernel
theorem dX2_after_206 : decode cX2_after 206 = .ok (.goto 4, 3) := by decide +kernel
theorem dX2_after_209 : decode cX2_after 209 = .ok (.iconst 0, 1) := by decide +kernel
theorem dX2_after_210 : decode cX2_after 210 = .ok (.ireturn, 1) := by decide +kernel
theorem dX2_after_211 : decode cX2_after 211 = .ok (.iload_n 1, 1) := by decide +kernel
theorem dX2_after_212 : decode cX2_after 212 = .ok (.bipush 61, 2) := by decide +kernel
theorem dX2_after_214 : decode cX2_after 214 = .ok (.if_icmp .ne 7, 3) := by decide +kernel
theorem dX2_after_217 : decode cX2_after 217 = .ok (.iconst 3, 1) := by decide +kernel
theorem dX2_after_218 : decode cX2_after 218 = .ok (.goto 14, 3) := by decide +kernel
theorem dX2_after_221 : decode cX2_after 221 = .ok (.iload_n 1, 1) := by decide +kernel
theorem dX2_after_222 : decode cX2_after 222 = .ok (.bipush 44, 2) := by decide +kernel
theorem dX2_after_224 : decode cX2_after 224 = .ok (.if_icmp .ne 7, 3) := by decide +kernel
theorem dX2_after_227 : decode cX2_after 227 = .ok (.iconst 1, 1) := by decide +kernel
theorem dX2_after_228 : decode cX2_after 228 = .ok (.goto 4, 3) := by decide +kernel
theorem dX2_after_231 : decode cX2_after 231 = .ok (.iconst 0, 1) := by decide +kernel
theorem dX2_after_232 : decode cX2_after 232 = .ok (.ireturn, 1) := by decide +kernel
theorem dX2_after_233 : decode cX2_after 233 = .ok (.iload_n 3, 1) := by decide +kernel
theorem dX2_after_234 : decode cX2_after 234 = .ok (.ifCond .eq 8, 3) := by decide +kernel
theorem dX2_after_237 : decode cX2_after 237 = .ok (.bipush 11, 2) := by decide +kernel
theorem dX2_after_239 : decode cX2_after 239 = .ok (.goto 4, 3) := by decide +kernel
theorem dX2_after_242 : decode cX2_after 242 = .ok (.iconst 0, 1) := by decide +kernel
theorem dX2_after_243 : decode cX2_after 243 = .ok (.ireturn, 1) := by decide +kernel
theorem dX2_after_244 : decode cX2_after 244 = .ok (.iload_n 3, 1) := by decide +kernel
theorem dX2_after_245 : decode cX2_after 245 = .ok (.ifCond .eq 8, 3) := by decide +kernel
theorem dX2_after_248 : decode cX2_after 248 = .ok (.bipush 11, 2) := by decide +kernel
theorem dX2_after_250 : decode cX2_after 250 = .ok (.goto 14, 3) := by decide +kernel
theorem dX2_after_253 : decode cX2_after 253 = .ok (.iload_n 1, 1) := by decide +kernel
theorem dX2_after_254 : decode cX2_after 254 = .ok (.bipush 44, 2) := by decide +kernel
theorem dX2_after_256 : decode cX2_after 256 = .ok (.if_icmp .ne 7, 3) := by decide +kernel
theorem dX2_after_259 : decode cX2_after 259 = .ok (.iconst 1, 1) := by decide +kernel
theorem dX2_after_260 : decode cX2_after 260 = .ok (.goto 4, 3) := by decide +kernel
theorem dX2_after_263 : decode cX2_after 263 = .ok (.iconst 0, 1) := by decide +kernel
theorem dX2_after_264 : decode cX2_after 264 = .ok (.ireturn, 1) := by decide +kernel
theorem dX2_after_265 : decode cX2_after 265 = .ok (.iconst 0, 1) := by decide +kernel
theorem dX2_after_266 : decode cX2_after 266 = .ok (.ireturn, 1) := by decide +kernel
theorem dX2_afterScope_0 : decode cX2_afterScope 0 = .ok (.iload_n 0, 1) := by decide +kernel
theorem dX2_afterScope_1 : decode cX2_afterScope 1 = .ok (.lookupswitch 57 #[(45, 53), (46, 53), (60, 55), (63, 53), (94, 51)], 51) := by decide +kernel
theorem dX2_afterScope_52 : decode cX2_afterScope 52 = .ok (.iconst 4, 1) := by decide +kernel
theorem dX2_afterScope_53 : decode cX2_afterScope 53 = .ok (.ireturn, 1) := by decide +kernel
theorem dX2_afterScope_54 : decode cX2_afterScope 54 = .ok (.iconst 3, 1) := by decide +kernel
theorem dX2_afterScope_55 : decode cX2_afterScope 55 = .ok (.ireturn, 1) := by decide +kernel
theorem dX2_afterScope_56 : decode cX2_afterScope 56 = .ok (.iconst 5, 1) := by decide +kernel
theorem dX2_afterScope_57 : decode cX2_afterScope 57 = .ok (.ireturn, 1) := by decide +kernel
theorem dX2_afterScope_58 : decode cX2_afterScope 58 = .ok (.iconst 0, 1) := by decide +kernel
theorem dX2_afterScope_59 : decode cX2_afterScope 59 = .ok (.ireturn, 1) := by decide +kernel
theorem dX2_putItems_0 : decode cX2_putItems 0 = .ok (.iconst 0, 1) := by decide +kernel
theorem dX2_putItems_1 : decode cX2_putItems 1 = .ok (.istore_n 2, 1) := by decide +kernel
theorem dX2_putItems_2 : decode cX2_putItems 2 = .ok (.iconst 0, 1) := by decide +kernel
theorem dX2_putItems_3 : decode cX2_putItems 3 = .ok (.istore_n 3, 1) := by decide +kernel
theorem dX2_putItems_4 : decode cX2_putItems 4 = .ok (.iconst 0, 1) := by decide +kernel
theorem dX2_putItems_5 : decode cX2_putItems 5 = .ok (.istore 4, 2) := by decide +kernel
theorem dX2_putItems_7 : decode cX2_putItems 7 = .ok (.iload 4, 2) := by decide +kernel
theorem dX2_putItems_9 : decode cX2_putItems 9 = .ok (.aload_n 0, 1) := by decide +kernel
theorem dX2_putItems_10 : decode cX2_putItems 10 = .ok (.getfield 15, 3) := by decide +kernel
theorem dX2_putItems_13 : decode cX2_putItems 13 = .ok (.if_icmp .gt 49, 3) := by decide +kernel
theorem dX2_putItems_16 : decode cX2_putItems 16 = .ok (.iload 4, 2) := by decide +kernel
theorem dX2_putItems_18 : decode cX2_putItems 18 = .ok (.aload_n 0, 1) := by decide +kernel
theorem dX2_putItems_19 : decode cX2_putItems 19 = .ok (.getfield 15, 3) := by decide +kernel
theorem dX2_putItems_22 : decode cX2_putItems 22 = .ok (.if_icmp .eq 15, 3) := by decide +kernel
theorem dX2_putItems_25 : decode cX2_putItems 25 = .ok (.aload_n 0, 1) := by decide +kernel
theorem dX2_putItems_26 : decode cX2_putItems 26 = .ok (.getfield 9, 3) := by decide +kernel
theorem dX2_putItems_29 : decode cX2_putItems 29 = .ok (.iload 4, 2) := by decide +kernel
theorem dX2_putItems_31 : decode cX2_putItems 31 = .ok (.iaload, 1) := by decide +kernel
theorem dX2_putItems_32 : decode cX2_putItems 32 = .ok (.bipush 44, 2) := by decide +kernel
theorem dX2_putItems_34 : decode cX2_putItems 34 = .ok (.if_icmp .ne 22, 3) := by decide +kernel
theorem dX2_putItems_37 : decode cX2_putItems 37 = .ok (.aload_n 0, 1) := by decide +kernel
theorem dX2_putItems_38 : decode cX2_putItems 38 = .ok (.aload_n 1, 1) := by decide +kernel
theorem dX2_putItems_39 : decode cX2_putItems 39 = .ok (.iload_n 3, 1) := by decide +kernel
theorem dX2_putItems_40 : decode cX2_putItems 40 = .ok (.invokevirtual 27, 3) := by decide +kernel
theorem dX2_putItems_43 : decode cX2_putItems 43 = .ok (.ifCond .eq 5, 3) := by decide +kernel
theorem dX2_putItems_46 : decode cX2_putItems 46 = .ok (.iconst (-1), 1) := by decide +kernel
theorem dX2_putItems_47 : decode cX2_putItems 47 = .ok (.ireturn, 1) := by decide +kernel
theorem dX2_putItems_48 : decode cX2_putItems 48 = .ok (.iinc 2 1, 3) := by decide +kernel
theorem dX2_putItems_51 : decode cX2_putItems 51 = .ok (.iload 4, 2) := by decide +kernel
theorem dX2_putItems_53 : decode cX2_putItems 53 = .ok (.iconst 1, 1) := by decide +kernel
theorem dX2_putItems_54 : decode cX2_putItems 54 = .ok (.iadd, 1) := by decide +kernel
theorem dX2_putItems_55 : decode cX2_putItems 55 = .ok (.istore_n 3, 1) := by decide +kernel
theorem dX2_putItems_56 : decode cX2_putItems 56 = .ok (.iinc 4 1, 3) := by decide +kernel
theorem dX2_putItems_59 : decode cX2_putItems 59 = .ok (.goto (-52), 3) := by decide +kernel
theorem dX2_putItems_62 : decode cX2_putItems 62 = .ok (.iload_n 2, 1) := by decide +kernel
theorem dX2_putItems_63 : decode cX2_putItems 63 = .ok (.ireturn, 1) := by decide +kernel
theorem dX2_putItem_0 : decode cX2_putItem 0 = .ok (.aload_n 0, 1) := by decide +kernel
theorem dX2_putItem_1 : decode cX2_putItem 1 = .ok (.iload_n 2, 1) := by decide +kernel
theorem dX2_putItem_2 : decode cX2_putItem 2 = .ok (.invokevirtual 31, 3) := by decide +kernel
theorem dX2_putItem_5 : decode cX2_putItem 5 = .ok (.bipush 65, 2) := by decide +kernel
theorem dX2_putItem_7 : decode cX2_putItem 7 = .ok (.isub, 1) := by decide +kernel
theorem dX2_putItem_8 : decode cX2_putItem 8 = .ok (.istore_n 3, 1) := by decide +kernel
theorem dX2_putItem_9 : decode cX2_putItem 9 = .ok (.aload_n 0, 1) := by decide +kernel
theorem dX2_putItem_10 : decode cX2_putItem 10 = .ok (.iload_n 2, 1) := by decide +kernel
theorem dX2_putItem_11 : decode cX2_putItem 11 = .ok (.iconst 1, 1) := by decide +kernel
theorem dX2_putItem_12 : decode cX2_putItem 12 = .ok (.iadd, 1) := by decide +kernel
theorem dX2_putItem_13 : decode cX2_putItem 13 = .ok (.invokevirtual 31, 3) := by decide +kernel
theorem dX2_putItem_16 : decode cX2_putItem 16 = .ok (.istore 4, 2) := by decide +kernel
theorem dX2_putItem_18 : decode cX2_putItem 18 = .ok (.aload_n 0, 1) := by decide +kernel
theorem dX2_putItem_19 : decode cX2_putItem 19 = .ok (.iload_n 2, 1) := by decide +kernel
theorem dX2_putItem_20 : decode cX2_putItem 20 = .ok (.iconst 2, 1) := by decide +kernel
theorem dX2_putItem_21 : decode cX2_putItem 21 = .ok (.iadd, 1) := by decide +kernel
theorem dX2_putItem_22 : decode cX2_putItem 22 = .ok (.invokevirtual 31, 3) := by decide +kernel
theorem dX2_putItem_25 : decode cX2_putItem 25 = .ok (.bipush 97, 2) := by decide +kernel
theorem dX2_putItem_27 : decode cX2_putItem 27 = .ok (.isub, 1) := by decide +kernel
theorem dX2_putItem_28 : decode cX2_putItem 28 = .ok (.istore 5, 2) := by decide +kernel
theorem dX2_putItem_30 : decode cX2_putItem 30 = .ok (.iload 4, 2) := by decide +kernel
theorem dX2_putItem_32 : decode cX2_putItem 32 = .ok (.bipush 60, 2) := by decide +kernel
theorem dX2_putItem_34 : decode cX2_putItem 34 = .ok (.if_icmp .ne 13, 3) := by decide +kernel
theorem dX2_putItem_37 : decode cX2_putItem 37 = .ok (.aload_n 0, 1) := by decide +kernel
theorem dX2_putItem_38 : decode cX2_putItem 38 = .ok (.aload_n 1, 1) := by decide +kernel
theorem dX2_putItem_39 : decode cX2_putItem 39 = .ok (.iload_n 3, 1) := by decide +kernel
theorem dX2_putItem_40 : decode cX2_putItem 40 = .ok (.iload_n 2, 1) := by decide +kernel
theorem dX2_putItem_41 : decode cX2_putItem 41 = .ok (.iconst 2, 1) := by decide +kernel
theorem dX2_putItem_42 : decode cX2_putItem 42 = .ok (.iadd, 1) := by decide +kernel
theorem dX2_putItem_43 : decode cX2_putItem 43 = .ok (.invokevirtual 34, 3) := by decide +kernel
theorem dX2_putItem_46 : decode cX2_putItem 46 = .ok (.ireturn, 1) := by decide +kernel
theorem dX2_putItem_47 : decode cX2_putItem 47 = .ok (.iload 4, 2) := by decide +kernel
theorem dX2_putItem_49 : decode cX2_putItem 49 = .ok (.bipush 94, 2) := by decide +kernel
theorem dX2_putItem_51 : decode cX2_putItem 51 = .ok (.if_icmp .ne 11, 3) := by decide +kernel
theorem dX2_putItem_54 : decode cX2_putItem 54 = .ok (.aload_n 1, 1) := by decide +kernel
theorem dX2_putItem_55 : decode cX2_putItem 55 = .ok (.iload_n 3, 1) := by decide +kernel
theorem dX2_putItem_56 : decode cX2_putItem 56 = .ok (.invokevirtual 38, 3) := by decide +kernel
theorem dX2_putItem_59 : decode cX2_putItem 59 = .ok (.goto 27, 3) := by decide +kernel
theorem dX2_putItem_62 : decode cX2_putItem 62 = .ok (.iload 4, 2) := by decide +kernel
theorem dX2_putItem_64 : decode cX2_putItem 64 = .ok (.bipush 63, 2) := by decide +kernel
theorem dX2_putItem_66 : decode cX2_putItem 66 = .ok (.if_icmp .ne 13, 3) := by decide +kernel
theorem dX2_putItem_69 : decode cX2_putItem 69 = .ok (.aload_n 1, 1) := by decide +kernel
theorem dX2_putItem_70 : decode cX2_putItem 70 = .ok (.iload_n 3, 1) := by decide +kernel
theorem dX2_putItem_71 : decode cX2_putItem 71 = .ok (.iload 5, 2) := by decide +kernel
theorem dX2_putItem_73 : decode cX2_putItem 73 = .ok (.invokevirtual 43, 3) := by decide +kernel
theorem dX2_putItem_76 : decode cX2_putItem 76 = .ok (.goto 10, 3) := by decide +kernel
theorem dX2_putItem_79 : decode cX2_putItem 79 = .ok (.aload_n 1, 1) := by decide +kernel
theorem dX2_putItem_80 : decode cX2_putItem 80 = .ok (.iload_n 3, 1) := by decide +kernel
theorem dX2_putItem_81 : decode cX2_putItem 81 = .ok (.iload 5, 2) := by decide +kernel
theorem dX2_putItem_83 : decode cX2_putItem 83 = .ok (.invokevirtual 46, 3) := by decide +kernel
theorem dX2_putItem_86 : decode cX2_putItem 86 = .ok (.istore 6, 2) := by decide +kernel
theorem dX2_putItem_88 : decode cX2_putItem 88 = .ok (.iload 6, 2) := by decide +kernel
theorem dX2_putItem_90 : decode cX2_putItem 90 = .ok (.ifCond .ne 57, 3) := by decide +kernel
theorem dX2_putItem_93 : decode cX2_putItem 93 = .ok (.iload 4, 2) := by decide +kernel
theorem dX2_putItem_95 : decode cX2_putItem 95 = .ok (.bipush 94, 2) := by decide +kernel
theorem dX2_putItem_97 : decode cX2_putItem 97 = .ok (.if_icmp .ne 12, 3) := by decide +kernel
theorem dX2_putItem_100 : decode cX2_putItem 100 = .ok (.aload_n 1, 1) := by decide +kernel
theorem dX2_putItem_101 : decode cX2_putItem 101 = .ok (.iload_n 3, 1) := by decide +kernel
theorem dX2_putItem_102 : decode cX2_putItem 102 = .ok (.invokevirtual 49, 3) := by decide +kernel
theorem dX2_putItem_105 : decode cX2_putItem 105 = .ok (.pop, 1) := by decide +kernel
theorem dX2_putItem_106 : decode cX2_putItem 106 = .ok (.goto 41, 3) := by decide +kernel
theorem dX2_putItem_109 : decode cX2_putItem 109 = .ok (.iload 4, 2) := by decide +kernel
theorem dX2_putItem_111 : decode cX2_putItem 111 = .ok (.bipush 63, 2) := by decide +kernel
theorem dX2_putItem_113 : decode cX2_putItem 113 = .ok (.if_icmp .ne 14, 3) := by decide +kernel
theorem dX2_putItem_116 : decode cX2_putItem 116 = .ok (.aload_n 1, 1) := by decide +kernel
theorem dX2_putItem_117 : decode cX2_putItem 117 = .ok (.iload_n 3, 1) := by decide +kernel
theorem dX2_putItem_118 : decode cX2_putItem 118 = .ok (.iload 5, 2) := by decide +kernel
theorem dX2_putItem_120 : decode cX2_putItem 120 = .ok (.invokevirtual 52, 3) := by decide +kernel
theorem dX2_putItem_123 : decode cX2_putItem 123 = .ok (.pop, 1) := by decide +kernel
theorem dX2_putItem_124 : decode cX2_putItem 124 = .ok (.goto 23, 3) := by decide +kernel
theorem dX2_putItem_127 : decode cX2_putItem 127 = .ok (.aload_n 1, 1) := by decide +kernel
theorem dX2_putItem_128 : decode cX2_putItem 128 = .ok (.iload_n 3, 1) := by decide +kernel
theorem dX2_putItem_129 : decode cX2_putItem 129 = .ok (.iload 5, 2) := by decide +kernel
theorem dX2_putItem_131 : decode cX2_putItem 131 = .ok (.iload 4, 2) := by decide +kernel
theorem dX2_putItem_133 : decode cX2_putItem 133 = .ok (.bipush 46, 2) := by decide +kernel
theorem dX2_putItem_135 : decode cX2_putItem 135 = .ok (.if_icmp .ne 7, 3) := by decide +kernel
theorem dX2_putItem_138 : decode cX2_putItem 138 = .ok (.iconst 1, 1) := by decide +kernel
theorem dX2_putItem_139 : decode cX2_putItem 139 = .ok (.goto 4, 3) := by decide +kernel
theorem dX2_putItem_142 : decode cX2_putItem 142 = .ok (.iconst 0, 1) := by decide +kernel
theorem dX2_putItem_143 : decode cX2_putItem 143 = .ok (.invokevirtual 55, 3) := by decide +kernel
theorem dX2_putItem_146 : decode cX2_putItem 146 = .ok (.pop, 1) := by decide +kernel
theorem dX2_putItem_147 : decode cX2_putItem 147 = .ok (.iload 6, 2) := by decide +kernel
theorem dX2_putItem_149 : decode cX2_putItem 149 = .ok (.ireturn, 1) := by decide +kernel
theorem dX2_putImportItem_0 : decode cX2_putImportItem 0 = .ok (.aload_n 0, 1) := by decide +kernel
theorem dX2_putImportItem_1 : decode cX2_putImportItem 1 = .ok (.iload_n 3, 1) := by decide +kernel
theorem dX2_putImportItem_2 : decode cX2_putImportItem 2 = .ok (.invokevirtual 31, 3) := by decide +kernel
theorem dX2_putImportItem_5 : decode cX2_putImportItem 5 = .ok (.bipush 60, 2) := by decide +kernel
theorem dX2_putImportItem_7 : decode cX2_putImportItem 7 = .ok (.if_icmp .ne 7, 3) := by decide +kernel
theorem dX2_putImportItem_10 : decode cX2_putImportItem 10 = .ok (.iconst 1, 1) := by decide +kernel
theorem dX2_putImportItem_11 : decode cX2_putImportItem 11 = .ok (.goto 4, 3) := by decide +kernel
theorem dX2_putImportItem_14 : decode cX2_putImportItem 14 = .ok (.iconst 0, 1) := by decide +kernel
theorem dX2_putImportItem_15 : decode cX2_putImportItem 15 = .ok (.istore 4, 2) := by decide +kernel
theorem dX2_putImportItem_17 : decode cX2_putImportItem 17 = .ok (.iload_n 3, 1) := by decide +kernel
theorem dX2_putImportItem_18 : decode cX2_putImportItem 18 = .ok (.iload 4, 2) := by decide +kernel
theorem dX2_putImportItem_20 : decode cX2_putImportItem 20 = .ok (.iadd, 1) := by decide +kernel
theorem dX2_putImportItem_21 : decode cX2_putImportItem 21 = .ok (.istore 5, 2) := by decide +kernel
theorem dX2_putImportItem_23 : decode cX2_putImportItem 23 = .ok (.aload_n 0, 1) := by decide +kernel
theorem dX2_putImportItem_24 : decode cX2_putImportItem 24 = .ok (.iload 5, 2) := by decide +kernel
theorem dX2_putImportItem_26 : decode cX2_putImportItem 26 = .ok (.invokevirtual 31, 3) := by decide +kernel
theorem dX2_putImportItem_29 : decode cX2_putImportItem 29 = .ok (.bipush 65, 2) := by decide +kernel
theorem dX2_putImportItem_31 : decode cX2_putImportItem 31 = .ok (.isub, 1) := by decide +kernel
theorem dX2_putImportItem_32 : decode cX2_putImportItem 32 = .ok (.istore 6, 2) := by decide +kernel
theorem dX2_putImportItem_34 : decode cX2_putImportItem 34 = .ok (.aload_n 1, 1) := by decide +kernel
theorem dX2_putImportItem_35 : decode cX2_putImportItem 35 = .ok (.iload_n 2, 1) := by decide +kernel
theorem dX2_putImportItem_36 : decode cX2_putImportItem 36 = .ok (.iload 6, 2) := by decide +kernel
theorem dX2_putImportItem_38 : decode cX2_putImportItem 38 = .ok (.iconst 1, 1) := by decide +kernel
theorem dX2_putImportItem_39 : decode cX2_putImportItem 39 = .ok (.invokevirtual 59, 3) := by decide +kernel
theorem dX2_putImportItem_42 : decode cX2_putImportItem 42 = .ok (.istore 7, 2) := by decide +kernel
theorem dX2_putImportItem_44 : decode cX2_putImportItem 44 = .ok (.iload 7, 2) := by decide +kernel
theorem dX2_putImportItem_46 : decode cX2_putImportItem 46 = .ok (.ifCond .eq 6, 3) := by decide +kernel
theorem dX2_putImportItem_49 : decode cX2_putImportItem 49 = .ok (.iload 7, 2) := by decide +kernel
theorem dX2_putImportItem_51 : decode cX2_putImportItem 51 = .ok (.ireturn, 1) := by decide +kernel
theorem dX2_putImportItem_52 : decode cX2_putImportItem 52 = .ok (.aload_n 0, 1) := by decide +kernel
theorem dX2_putImportItem_53 : decode cX2_putImportItem 53 = .ok (.iload 5, 2) := by decide +kernel
theorem dX2_putImportItem_55 : decode cX2_putImportItem 55 = .ok (.iconst 1, 1) := by decide +kernel
theorem dX2_putImportItem_56 : decode cX2_putImportItem 56 = .ok (.iadd, 1) := by decide +kernel
theorem dX2_putImportItem_57 : decode cX2_putImportItem 57 = .ok (.invokevirtual 31, 3) := by decide +kernel
theorem dX2_putImportItem_60 : decode cX2_putImportItem 60 = .ok (.bipush 46, 2) := by decide +kernel
theorem dX2_putImportItem_62 : decode cX2_putImportItem 62 = .ok (.if_icmp .ne 65, 3) := by decide +kernel
theorem dX2_putImportItem_65 : decode cX2_putImportItem 65 = .ok (.aload_n 0, 1) := by decide +kernel
theorem dX2_putImportItem_66 : decode cX2_putImportItem 66 = .ok (.iload 5, 2) := by decide +kernel
theorem dX2_putImportItem_68 : decode cX2_putImportItem 68 = .ok (.iconst 2, 1) := by decide +kernel
theorem dX2_putImportItem_69 : decode cX2_putImportItem 69 = .ok (.iadd, 1) := by decide +kernel
theorem dX2_putImportItem_70 : decode cX2_putImportItem 70 = .ok (.invokevirtual 31, 3) := by decide +kernel
theorem dX2_putImportItem_73 : decode cX2_putImportItem 73 = .ok (.bipush 97, 2) := by decide +kernel
theorem dX2_putImportItem_75 : decode cX2_putImportItem 75 = .ok (.isub, 1) := by decide +kernel
theorem dX2_putImportItem_76 : decode cX2_putImportItem 76 = .ok (.istore 8, 2) := by decide +kernel
theorem dX2_putImportItem_78 : decode cX2_putImportItem 78 = .ok (.aload_n 0, 1) := by decide +kernel
theorem dX2_putImportItem_79 : decode cX2_putImportItem 79 = .ok (.iload 5, 2) := by decide +kernel
theorem dX2_putImportItem_81 : decode cX2_putImportItem 81 = .ok (.iconst 3, 1) := by decide +kernel
theorem dX2_putImportItem_82 : decode cX2_putImportItem 82 = .ok (.iadd, 1) := by decide +kernel
theorem dX2_putImportItem_83 : decode cX2_putImportItem 83 = .ok (.invokevirtual 31, 3) := by decide +kernel
theorem dX2_putImportItem_86 : decode cX2_putImportItem 86 = .ok (.bipush 61, 2) := by decide +kernel
theorem dX2_putImportItem_88 : decode cX2_putImportItem 88 = .ok (.if_icmp .ne 17, 3) := by decide +kernel
theorem dX2_putImportItem_91 : decode cX2_putImportItem 91 = .ok (.aload_n 0, 1) := by decide +kernel
theorem dX2_putImportItem_92 : decode cX2_putImportItem 92 = .ok (.iload 5, 2) := by decide +kernel
theorem dX2_putImportItem_94 : decode cX2_putImportItem 94 = .ok (.iconst 4, 1) := by decide +kernel
theorem dX2_putImportItem_95 : decode cX2_putImportItem 95 = .ok (.iadd, 1) := by decide +kernel
theorem dX2_putImportItem_96 : decode cX2_putImportItem 96 = .ok (.invokevirtual 31, 3) := by decide +kernel
theorem dX2_putImportItem_99 : decode cX2_putImportItem 99 = .ok (.bipush 97, 2) := by decide +kernel
theorem dX2_putImportItem_101 : decode cX2_putImportItem 101 = .ok (.isub, 1) := by decide +kernel
theorem dX2_putImportItem_102 : decode cX2_putImportItem 102 = .ok (.goto 5, 3) := by decide +kernel
theorem dX2_putImportItem_105 : decode cX2_putImportItem 105 = .ok (.iload 8, 2) := by decide +kernel
theorem dX2_putImportItem_107 : decode cX2_putImportItem 107 = .ok (.istore 9, 2) := by decide +kernel
theorem dX2_putImportItem_109 : decode cX2_putImportItem 109 = .ok (.aload_n 1, 1) := by decide +kernel
theorem dX2_putImportItem_110 : decode cX2_putImportItem 110 = .ok (.iload_n 2, 1) := by decide +kernel
theorem dX2_putImportItem_111 : decode cX2_putImportItem 111 = .ok (.iload 6, 2) := by decide +kernel
theorem dX2_putImportItem_113 : decode cX2_putImportItem 113 = .ok (.iload 8, 2) := by decide +kernel
theorem dX2_putImportItem_115 : decode cX2_putImportItem 115 = .ok (.iload 9, 2) := by decide +kernel
theorem dX2_putImportItem_117 : decode cX2_putImportItem 117 = .ok (.iconst 0, 1) := by decide +kernel
theorem dX2_putImportItem_118 : decode cX2_putImportItem 118 = .ok (.iload 4, 2) := by decide +kernel
theorem dX2_putImportItem_120 : decode cX2_putImportItem 120 = .ok (.invokevirtual 63, 3) := by decide +kernel
theorem dX2_putImportItem_123 : decode cX2_putImportItem 123 = .ok (.pop, 1) := by decide +kernel
theorem dX2_putImportItem_124 : decode cX2_putImportItem 124 = .ok (.goto 44, 3) := by decide +kernel
theorem dX2_putImportItem_127 : decode cX2_putImportItem 127 = .ok (.aload_n 0, 1) := by decide +kernel
theorem dX2_putImportItem_128 : decode cX2_putImportItem 128 = .ok (.iload 5, 2) := by decide +kernel
theorem dX2_putImportItem_130 : decode cX2_putImportItem 130 = .ok (.iconst 1, 1) := by decide +kernel
theorem dX2_putImportItem_131 : decode cX2_putImportItem 131 = .ok (.iadd, 1) := by decide +kernel
theorem dX2_putImportItem_132 : decode cX2_putImportItem 132 = .ok (.invokevirtual 31, 3) := by decide +kernel
theorem dX2_putImportItem_135 : decode cX2_putImportItem 135 = .ok (.bipush 47, 2) := by decide +kernel
theorem dX2_putImportItem_137 : decode cX2_putImportItem 137 = .ok (.if_icmp .ne 14, 3) := by decide +kernel
theorem dX2_putImportItem_140 : decode cX2_putImportItem 140 = .ok (.aload_n 0, 1) := by decide +kernel
theorem dX2_putImportItem_141 : decode cX2_putImportItem 141 = .ok (.iload 5, 2) := by decide +kernel
theorem dX2_putImportItem_143 : decode cX2_putImportItem 143 = .ok (.iconst 2, 1) := by decide +kernel
theorem dX2_putImportItem_144 : decode cX2_putImportItem 144 = .ok (.iadd, 1) := by decide +kernel
theorem dX2_putImportItem_145 : decode cX2_putImportItem 145 = .ok (.invokevirtual 67, 3) := by decide +kernel
theorem dX2_putImportItem_148 : decode cX2_putImportItem 148 = .ok (.goto 4, 3) := by decide +kernel
theorem dX2_putImportItem_151 : decode cX2_putImportItem 151 = .ok (.iconst 0, 1) := by decide +kernel
theorem dX2_putImportItem_152 : decode cX2_putImportItem 152 = .ok (.istore 8, 2) := by decide +kernel
theorem dX2_putImportItem_154 : decode cX2_putImportItem 154 = .ok (.aload_n 1, 1) := by decide +kernel
theorem dX2_putImportItem_155 : decode cX2_putImportItem 155 = .ok (.iload_n 2, 1) := by decide +kernel
theorem dX2_putImportItem_156 : decode cX2_putImportItem 156 = .ok (.iload 6, 2) := by decide +kernel
theorem dX2_putImportItem_158 : decode cX2_putImportItem 158 = .ok (.iconst (-1), 1) := by decide +kernel
theorem dX2_putImportItem_159 : decode cX2_putImportItem 159 = .ok (.iconst (-1), 1) := by decide +kernel
theorem dX2_putImportItem_160 : decode cX2_putImportItem 160 = .ok (.iload 8, 2) := by decide +kernel
theorem dX2_putImportItem_162 : decode cX2_putImportItem 162 = .ok (.iload 4, 2) := by decide +kernel
theorem dX2_putImportItem_164 : decode cX2_putImportItem 164 = .ok (.invokevirtual 63, 3) := by decide +kernel
theorem dX2_putImportItem_167 : decode cX2_putImportItem 167 = .ok (.pop, 1) := by decide +kernel
theorem dX2_putImportItem_168 : decode cX2_putImportItem 168 = .ok (.iconst 0, 1) := by decide +kernel
theorem dX2_putImportItem_169 : decode cX2_putImportItem 169 = .ok (.ireturn, 1) := by decide +kernel
theorem dX2_exceptedFrom_0 : decode cX2_exceptedFrom 0 = .ok (.iconst 0, 1) := by decide +kernel
theorem dX2_exceptedFrom_1 : decode cX2_exceptedFrom 1 = .ok (.istore_n 2, 1) := by decide +kernel
theorem dX2_exceptedFrom_2 : decode cX2_exceptedFrom 2 = .ok (.iload_n 1, 1) := by decide +kernel
theorem dX2_exceptedFrom_3 : decode cX2_exceptedFrom 3 = .ok (.istore_n 3, 1) := by decide +kernel
theorem dX2_exceptedFrom_4 : decode cX2_exceptedFrom 4 = .ok (.iload_n 3, 1) := by decide +kernel
theorem dX2_exceptedFrom_5 : decode cX2_exceptedFrom 5 = .ok (.aload_n 0, 1) := by decide +kernel
theorem dX2_exceptedFrom_6 : decode cX2_exceptedFrom 6 = .ok (.getfield 15, 3) := by decide +kernel
theorem dX2_exceptedFrom_9 : decode cX2_exceptedFrom 9 = .ok (.if_icmp .ge 32, 3) := by decide +kernel
theorem dX2_exceptedFrom_12 : decode cX2_exceptedFrom 12 = .ok (.aload_n 0, 1) := by decide +kernel
theorem dX2_exceptedFrom_13 : decode cX2_exceptedFrom 13 = .ok (.iload_n 3, 1) := by decide +kernel
theorem dX2_exceptedFrom_14 : decode cX2_exceptedFrom 14 = .ok (.invokevirtual 31, 3) := by decide +kernel
theorem dX2_exceptedFrom_17 : decode cX2_exceptedFrom 17 = .ok (.bipush 97, 2) := by decide +kernel
theorem dX2_exceptedFrom_19 : decode cX2_exceptedFrom 19 = .ok (.if_icmp .lt 22, 3) := by decide +kernel
theorem dX2_exceptedFrom_22 : decode cX2_exceptedFrom 22 = .ok (.iload_n 2, 1) := by decide +kernel
theorem dX2_exceptedFrom_23 : decode cX2_exceptedFrom 23 = .ok (.iconst 1, 1) := by decide +kernel
theorem dX2_exceptedFrom_24 : decode cX2_exceptedFrom 24 = .ok (.aload_n 0, 1) := by decide +kernel
theorem dX2_exceptedFrom_25 : decode cX2_exceptedFrom 25 = .ok (.iload_n 3, 1) := by decide +kernel
theorem dX2_exceptedFrom_26 : decode cX2_exceptedFrom 26 = .ok (.invokevirtual 31, 3) := by decide +kernel
theorem dX2_exceptedFrom_29 : decode cX2_exceptedFrom 29 = .ok (.bipush 97, 2) := by decide +kernel
theorem dX2_exceptedFrom_31 : decode cX2_exceptedFrom 31 = .ok (.isub, 1) := by decide +kernel
theorem dX2_exceptedFrom_32 : decode cX2_exceptedFrom 32 = .ok (.ishl, 1) := by decide +kernel
theorem dX2_exceptedFrom_33 : decode cX2_exceptedFrom 33 = .ok (.ior, 1) := by decide +kernel
theorem dX2_exceptedFrom_34 : decode cX2_exceptedFrom 34 = .ok (.istore_n 2, 1) := by decide +kernel
theorem dX2_exceptedFrom_35 : decode cX2_exceptedFrom 35 = .ok (.iinc 3 1, 3) := by decide +kernel
theorem dX2_exceptedFrom_38 : decode cX2_exceptedFrom 38 = .ok (.goto (-34), 3) := by decide +kernel
theorem dX2_exceptedFrom_41 : decode cX2_exceptedFrom 41 = .ok (.iload_n 2, 1) := by decide +kernel
theorem dX2_exceptedFrom_42 : decode cX2_exceptedFrom 42 = .ok (.ireturn, 1) := by decide +kernel
theorem dX3_init_0 : decode cX3_init 0 = .ok (.aload_n 0, 1) := by decide +kernel
theorem dX3_init_1 : decode cX3_init 1 = .ok (.invokespecial 3, 3) := by decide +kernel
theorem dX3_init_4 : decode cX3_init 4 = .ok (.aload_n 0, 1) := by decide +kernel
theorem dX3_init_5 : decode cX3_init 5 = .ok (.new 9, 3) := by decide +kernel
theorem dX3_init_8 : decode cX3_init 8 = .ok (.dup, 1) := by decide +kernel
theorem dX3_init_9 : decode cX3_init 9 = .ok (.invokespecial 11, 3) := by decide +kernel
theorem dX3_init_12 : decode cX3_init 12 = .ok (.putfield 12, 3) := by decide +kernel
theorem dX3_init_15 : decode cX3_init 15 = .ok (.aload_n 0, 1) := by decide +kernel
theorem dX3_init_16 : decode cX3_init 16 = .ok (.new 16, 3) := by decide +kernel
theorem dX3_init_19 : decode cX3_init 19 = .ok (.dup, 1) := by decide +kernel
theorem dX3_init_20 : decode cX3_init 20 = .ok (.invokespecial 18, 3) := by decide +kernel
theorem dX3_init_23 : decode cX3_init 23 = .ok (.putfield 19, 3) := by decide +kernel
theorem dX3_init_26 : decode cX3_init 26 = .ok (.aload_n 0, 1) := by decide +kernel
theorem dX3_init_27 : decode cX3_init 27 = .ok (.new 16, 3) := by decide +kernel
theorem dX3_init_30 : decode cX3_init 30 = .ok (.dup, 1) := by decide +kernel
theorem dX3_init_31 : decode cX3_init 31 = .ok (.invokespecial 18, 3) := by decide +kernel
theorem dX3_init_34 : decode cX3_init 34 = .ok (.putfield 23, 3) := by decide +kernel
theorem dX3_init_37 : decode cX3_init 37 = .ok (.return_, 1) := by decide +kernel
theorem dX3_begin_0 : decode cX3_begin 0 = .ok (.aload_n 0, 1) := by decide +kernel
theorem dX3_begin_1 : decode cX3_begin 1 = .ok (.getfield 19, 3) := by decide +kernel
theorem dX3_begin_4 : decode cX3_begin 4 = .ok (.getfield 26, 3) := by decide +kernel
theorem dX3_begin_7 : decode cX3_begin 7 = .ok (.istore_n 1, 1) := by decide +kernel
theorem dX3_begin_8 : decode cX3_begin 8 = .ok (.aload_n 0, 1) := by decide +kernel
theorem dX3_begin_9 : decode cX3_begin 9 = .ok (.getfield 19, 3) := by decide +kernel
theorem dX3_begin_12 : decode cX3_begin 12 = .ok (.invokevirtual 30, 3) := by decide +kernel
theorem dX3_begin_15 : decode cX3_begin 15 = .ok (.aload_n 0, 1) := by decide +kernel
theorem dX3_begin_16 : decode cX3_begin 16 = .ok (.getfield 19, 3) := by decide +kernel
theorem dX3_begin_19 : decode cX3_begin 19 = .ok (.invokevirtual 33, 3) := by decide +kernel
theorem dX3_begin_22 : decode cX3_begin 22 = .ok (.iload_n 1, 1) := by decide +kernel
theorem dX3_begin_23 : decode cX3_begin 23 = .ok (.ireturn, 1) := by decide +kernel
theorem dX3_addScope_0 : decode cX3_addScope 0 = .ok (.aload_n 0, 1) := by decide +kernel
theorem dX3_addScope_1 : decode cX3_addScope 1 = .ok (.getfield 19, 3) := by decide +kernel
theorem dX3_addScope_4 : decode cX3_addScope 4 = .ok (.iload_n 1, 1) := by decide +kernel
theorem dX3_addScope_5 : decode cX3_addScope 5 = .ok (.invokevirtual 36, 3) := by decide +kernel
theorem dX3_addScope_8 : decode cX3_addScope 8 = .ok (.invokestatic 40, 3) := by decide +kernel
theorem dX3_addScope_11 : decode cX3_addScope 11 = .ok (.aload_n 0, 1) := by decide +kernel
theorem dX3_addScope_12 : decode cX3_addScope 12 = .ok (.getfield 19, 3) := by decide +kernel
theorem dX3_addScope_15 : decode cX3_addScope 15 = .ok (.iload_n 1, 1) := by decide +kernel
theorem dX3_addScope_16 : decode cX3_addScope 16 = .ok (.invokevirtual 44, 3) := by decide +kernel
theorem dX3_addScope_19 : decode cX3_addScope 19 = .ok (.istore_n 2, 1) := by decide +kernel
theorem dX3_addScope_20 : decode cX3_addScope 20 = .ok (.aload_n 0, 1) := by decide +kernel
theorem dX3_addScope_21 : decode cX3_addScope 21 = .ok (.getfield 19, 3) := by decide +kernel
theorem dX3_addScope_24 : decode cX3_addScope 24 = .ok (.invokevirtual 33, 3) := by decide +kernel
theorem dX3_addScope_27 : decode cX3_addScope 27 = .ok (.iload_n 2, 1) := by decide +kernel
theorem dX3_addScope_28 : decode cX3_addScope 28 = .ok (.ireturn, 1) := by decide +kernel
theorem dX3_declare_0 : decode cX3_declare 0 = .ok (.aload_n 0, 1) := by decide +kernel
theorem dX3_declare_1 : decode cX3_declare 1 = .ok (.getfield 19, 3) := by decide +kernel
theorem dX3_declare_4 : decode cX3_declare 4 = .ok (.iload_n 1, 1) := by decide +kernel
theorem dX3_declare_5 : decode cX3_declare 5 = .ok (.iload_n 2, 1) := by decide +kernel
theorem dX3_declare_6 : decode cX3_declare 6 = .ok (.invokevirtual 47, 3) := by decide +kernel
theorem dX3_declare_9 : decode cX3_declare 9 = .ok (.invokestatic 40, 3) := by decide +kernel
theorem dX3_declare_12 : decode cX3_declare 12 = .ok (.aload_n 0, 1) := by decide +kernel
theorem dX3_declare_13 : decode cX3_declare 13 = .ok (.getfield 19, 3) := by decide +kernel
theorem dX3_declare_16 : decode cX3_declare 16 = .ok (.iload_n 1, 1) := by decide +kernel
theorem dX3_declare_17 : decode cX3_declare 17 = .ok (.iload_n 2, 1) := by decide +kernel
theorem dX3_declare_18 : decode cX3_declare 18 = .ok (.iload_n 3, 1) := by decide +kernel
theorem dX3_declare_19 : decode cX3_declare 19 = .ok (.ifCond .eq 7, 3) := by decide +kernel
theorem dX3_declare_22 : decode cX3_declare 22 = .ok (.iconst 1, 1) := by decide +kernel
theorem dX3_declare_23 : decode cX3_declare 23 = .ok (.goto 4, 3) := by decide +kernel
theorem dX3_declare_26 : decode cX3_declare 26 = .ok (.iconst 0, 1) := by decide +kernel
theorem dX3_declare_27 : decode cX3_declare 27 = .ok (.invokevirtual 51, 3) := by decide +kernel
theorem dX3_declare_30 : decode cX3_declare 30 = .ok (.istore 4, 2) := by decide +kernel
theorem dX3_declare_32 : decode cX3_declare 32 = .ok (.aload_n 0, 1) := by decide +kernel
theorem dX3_declare_33 : decode cX3_declare 33 = .ok (.getfield 19, 3) := by decide +kernel
theorem dX3_declare_36 : decode cX3_declare 36 = .ok (.invokevirtual 33, 3) := by decide +kernel
theorem dX3_declare_39 : decode cX3_declare 39 = .ok (.iload 4, 2) := by decide +kernel
theorem dX3_declare_41 : decode cX3_declare 41 = .ok (.ireturn, 1) := by decide +kernel
theorem dX3_importOne_0 : decode cX3_importOne 0 = .ok (.aload_n 0, 1) := by decide +kernel
theorem dX3_importOne_1 : decode cX3_importOne 1 = .ok (.getfield 19, 3) := by decide +kernel
theorem dX3_importOne_4 : decode cX3_importOne 4 = .ok (.iload_n 1, 1) := by decide +kernel
theorem dX3_importOne_5 : decode cX3_importOne 5 = .ok (.iload_n 2, 1) := by decide +kernel
theorem dX3_importOne_6 : decode cX3_importOne 6 = .ok (.iload_n 3, 1) := by decide +kernel
theorem dX3_importOne_7 : decode cX3_importOne 7 = .ok (.invokestatic 55, 3) := by decide +kernel
theorem dX3_importOne_10 : decode cX3_importOne 10 = .ok (.ifCond .eq 15, 3) := by decide +kernel
theorem dX3_importOne_13 : decode cX3_importOne 13 = .ok (.iload 4, 2) := by decide +kernel
theorem dX3_importOne_15 : decode cX3_importOne 15 = .ok (.invokestatic 55, 3) := by decide +kernel
theorem dX3_importOne_18 : decode cX3_importOne 18 = .ok (.ifCond .eq 7, 3) := by decide +kernel
theorem dX3_importOne_21 : decode cX3_importOne 21 = .ok (.iconst 1, 1) := by decide +kernel
theorem dX3_importOne_22 : decode cX3_importOne 22 = .ok (.goto 4, 3) := by decide +kernel
theorem dX3_importOne_25 : decode cX3_importOne 25 = .ok (.iconst 0, 1) := by decide +kernel
theorem dX3_importOne_26 : decode cX3_importOne 26 = .ok (.invokevirtual 59, 3) := by decide +kernel
theorem dX3_importOne_29 : decode cX3_importOne 29 = .ok (.invokestatic 40, 3) := by decide +kernel
theorem dX3_importOne_32 : decode cX3_importOne 32 = .ok (.aload_n 0, 1) := by decide +kernel
theorem dX3_importOne_33 : decode cX3_importOne 33 = .ok (.getfield 19, 3) := by decide +kernel
theorem dX3_importOne_36 : decode cX3_importOne 36 = .ok (.iload_n 1, 1) := by decide +kernel
theorem dX3_importOne_37 : decode cX3_importOne 37 = .ok (.iload_n 2, 1) := by decide +kernel
theorem dX3_importOne_38 : decode cX3_importOne 38 = .ok (.iload_n 3, 1) := by decide +kernel
theorem dX3_importOne_39 : decode cX3_importOne 39 = .ok (.iload 4, 2) := by decide +kernel
theorem dX3_importOne_41 : decode cX3_importOne 41 = .ok (.iconst 0, 1) := by decide +kernel
theorem dX3_importOne_42 : decode cX3_importOne 42 = .ok (.iload 5, 2) := by decide +kernel
theorem dX3_importOne_44 : decode cX3_importOne 44 = .ok (.ifCond .eq 7, 3) := by decide +kernel
theorem dX3_importOne_47 : decode cX3_importOne 47 = .ok (.iconst 1, 1) := by decide +kernel
theorem dX3_importOne_48 : decode cX3_importOne 48 = .ok (.goto 4, 3) := by decide +kernel
theorem dX3_importOne_51 : decode cX3_importOne 51 = .ok (.iconst 0, 1) := by decide +kernel
theorem dX3_importOne_52 : decode cX3_importOne 52 = .ok (.invokevirtual 63, 3) := by decide +kernel
theorem dX3_importOne_55 : decode cX3_importOne 55 = .ok (.istore 6, 2) := by decide +kernel
theorem dX3_importOne_57 : decode cX3_importOne 57 = .ok (.aload_n 0, 1) := by decide +kernel
theorem dX3_importOne_58 : decode cX3_importOne 58 = .ok (.getfield 19, 3) := by decide +kernel
theorem dX3_importOne_61 : decode cX3_importOne 61 = .ok (.invokevirtual 33, 3) := by decide +kernel
theorem dX3_importOne_64 : decode cX3_importOne 64 = .ok (.iload 6, 2) := by decide +kernel
theorem dX3_importOne_66 : decode cX3_importOne 66 = .ok (.ireturn, 1) := by decide +kernel
theorem dX3_importAll_0 : decode cX3_importAll 0 = .ok (.aload_n 0, 1) := by decide +kernel
theorem dX3_importAll_1 : decode cX3_importAll 1 = .ok (.getfield 19, 3) := by decide +kernel
theorem dX3_importAll_4 : decode cX3_importAll 4 = .ok (.iload_n 1, 1) := by decide +kernel
theorem dX3_importAll_5 : decode cX3_importAll 5 = .ok (.iload_n 2, 1) := by decide +kernel
theorem dX3_importAll_6 : decode cX3_importAll 6 = .ok (.iload_n 3, 1) := by decide +kernel
theorem dX3_importAll_7 : decode cX3_importAll 7 = .ok (.ifCond .lt 13, 3) := by decide +kernel
theorem dX3_importAll_10 : decode cX3_importAll 10 = .ok (.iload_n 3, 1) := by decide +kernel
theorem dX3_importAll_11 : decode cX3_importAll 11 = .ok (.ldc 67, 2) := by decide +kernel
theorem dX3_importAll_13 : decode cX3_importAll 13 = .ok (.if_icmp .ge 7, 3) := by decide +kernel
theorem dX3_importAll_16 : decode cX3_importAll 16 = .ok (.iconst 1, 1) := by decide +kernel
theorem dX3_importAll_17 : decode cX3_importAll 17 = .ok (.goto 4, 3) := by decide +kernel
theorem dX3_importAll_20 : decode cX3_importAll 20 = .ok (.iconst 0, 1) := by decide +kernel
theorem dX3_importAll_21 : decode cX3_importAll 21 = .ok (.invokevirtual 59, 3) := by decide +kernel
theorem dX3_importAll_24 : decode cX3_importAll 24 = .ok (.invokestatic 40, 3) := by decide +kernel
theorem dX3_importAll_27 : decode cX3_importAll 27 = .ok (.aload_n 0, 1) := by decide +kernel
theorem dX3_importAll_28 : decode cX3_importAll 28 = .ok (.getfield 19, 3) := by decide +kernel
theorem dX3_importAll_31 : decode cX3_importAll 31 = .ok (.iload_n 1, 1) := by decide +kernel
theorem dX3_importAll_32 : decode cX3_importAll 32 = .ok (.iload_n 2, 1) := by decide +kernel
theorem dX3_importAll_33 : decode cX3_importAll 33 = .ok (.iconst (-1), 1) := by decide +kernel
theorem dX3_importAll_34 : decode cX3_importAll 34 = .ok (.iconst (-1), 1) := by decide +kernel
theorem dX3_importAll_35 : decode cX3_importAll 35 = .ok (.iload_n 3, 1) := by decide +kernel
theorem dX3_importAll_36 : decode cX3_importAll 36 = .ok (.iload 4, 2) := by decide +kernel
theorem dX3_importAll_38 : decode cX3_importAll 38 = .ok (.ifCond .eq 7, 3) := by decide +kernel
theorem dX3_importAll_41 : decode cX3_importAll 41 = .ok (.iconst 1, 1) := by decide +kernel
theorem dX3_importAll_42 : decode cX3_importAll 42 = .ok (.goto 4, 3) := by decide +kernel
theorem dX3_importAll_45 : decode cX3_importAll 45 = .ok (.iconst 0, 1) := by decide +kernel
theorem dX3_importAll_46 : decode cX3_importAll 46 = .ok (.invokevirtual 63, 3) := by decide +kernel
theorem dX3_importAll_49 : decode cX3_importAll 49 = .ok (.istore 5, 2) := by decide +kernel
theorem dX3_importAll_51 : decode cX3_importAll 51 = .ok (.aload_n 0, 1) := by decide +kernel
theorem dX3_importAll_52 : decode cX3_importAll 52 = .ok (.getfield 19, 3) := by decide +kernel
theorem dX3_importAll_55 : decode cX3_importAll 55 = .ok (.invokevirtual 33, 3) := by decide +kernel
theorem dX3_importAll_58 : decode cX3_importAll 58 = .ok (.iload 5, 2) := by decide +kernel
theorem dX3_importAll_60 : decode cX3_importAll 60 = .ok (.ireturn, 1) := by decide +kernel
theorem dX3_use_0 : decode cX3_use 0 = .ok (.aload_n 0, 1) := by decide +kernel
theorem dX3_use_1 : decode cX3_use 1 = .ok (.getfield 19, 3) := by decide +kernel
theorem dX3_use_4 : decode cX3_use 4 = .ok (.iload_n 1, 1) := by decide +kernel
theorem dX3_use_5 : decode cX3_use 5 = .ok (.iload_n 2, 1) := by decide +kernel
theorem dX3_use_6 : decode cX3_use 6 = .ok (.invokevirtual 68, 3) := by decide +kernel
theorem dX3_use_9 : decode cX3_use 9 = .ok (.invokestatic 40, 3) := by decide +kernel
theorem dX3_use_12 : decode cX3_use 12 = .ok (.aload_n 0, 1) := by decide +kernel
theorem dX3_use_13 : decode cX3_use 13 = .ok (.getfield 19, 3) := by decide +kernel
theorem dX3_use_16 : decode cX3_use 16 = .ok (.iload_n 1, 1) := by decide +kernel
theorem dX3_use_17 : decode cX3_use 17 = .ok (.iload_n 2, 1) := by decide +kernel
theorem dX3_use_18 : decode cX3_use 18 = .ok (.invokevirtual 71, 3) := by decide +kernel
theorem dX3_use_21 : decode cX3_use 21 = .ok (.istore_n 3, 1) := by decide +kernel
theorem dX3_use_22 : decode cX3_use 22 = .ok (.aload_n 0, 1) := by decide +kernel
theorem dX3_use_23 : decode cX3_use 23 = .ok (.getfield 19, 3) := by decide +kernel
theorem dX3_use_26 : decode cX3_use 26 = .ok (.invokevirtual 33, 3) := by decide +kernel
theorem dX3_use_29 : decode cX3_use 29 = .ok (.iload_n 3, 1) := by decide +kernel
theorem dX3_use_30 : decode cX3_use 30 = .ok (.ireturn, 1) := by decide +kernel
theorem dX3_remove_0 : decode cX3_remove 0 = .ok (.iload_n 1, 1) := by decide +kernel
theorem dX3_remove_1 : decode cX3_remove 1 = .ok (.iconst 3, 1) := by decide +kernel
theorem dX3_remove_2 : decode cX3_remove 2 = .ok (.invokestatic 74, 3) := by decide +kernel
theorem dX3_remove_5 : decode cX3_remove 5 = .ok (.iload_n 2, 1) := by decide +kernel
theorem dX3_remove_6 : decode cX3_remove 6 = .ok (.iload_n 1, 1) := by decide +kernel
theorem dX3_remove_7 : decode cX3_remove 7 = .ok (.ifCond .ne 13, 3) := by decide +kernel
theorem dX3_remove_10 : decode cX3_remove 10 = .ok (.aload_n 0, 1) := by decide +kernel
theorem dX3_remove_11 : decode cX3_remove 11 = .ok (.getfield 19, 3) := by decide +kernel
theorem dX3_remove_14 : decode cX3_remove 14 = .ok (.getfield 78, 3) := by decide +kernel
theorem dX3_remove_17 : decode cX3_remove 17 = .ok (.goto 25, 3) := by decide +kernel
theorem dX3_remove_20 : decode cX3_remove 20 = .ok (.iload_n 1, 1) := by decide +kernel
theorem dX3_remove_21 : decode cX3_remove 21 = .ok (.iconst 1, 1) := by decide +kernel
theorem dX3_remove_22 : decode cX3_remove 22 = .ok (.if_icmp .ne 13, 3) := by decide +kernel
theorem dX3_remove_25 : decode cX3_remove 25 = .ok (.aload_n 0, 1) := by decide +kernel
theorem dX3_remove_26 : decode cX3_remove 26 = .ok (.getfield 19, 3) := by decide +kernel
theorem dX3_remove_29 : decode cX3_remove 29 = .ok (.getfield 81, 3) := by decide +kernel
theorem dX3_remove_32 : decode cX3_remove 32 = .ok (.goto 10, 3) := by decide +kernel
theorem dX3_remove_35 : decode cX3_remove 35 = .ok (.aload_n 0, 1) := by decide +kernel
theorem dX3_remove_36 : decode cX3_remove 36 = .ok (.getfield 19, 3) := by decide +kernel
theorem dX3_remove_39 : decode cX3_remove 39 = .ok (.getfield 84, 3) := by decide +kernel
theorem dX3_remove_42 : decode cX3_remove 42 = .ok (.invokestatic 87, 3) := by decide +kernel
theorem dX3_remove_45 : decode cX3_remove 45 = .ok (.iload_n 1, 1) := by decide +kernel
theorem dX3_remove_46 : decode cX3_remove 46 = .ok (.lookupswitch 38 #[(0, 26), (1, 32)], 26) := by decide +kernel
theorem dX3_remove_72 : decode cX3_remove 72 = .ok (.aload_n 0, 1) := by decide +kernel
theorem dX3_remove_73 : decode cX3_remove 73 = .ok (.iload_n 2, 1) := by decide +kernel
theorem dX3_remove_74 : decode cX3_remove 74 = .ok (.invokevirtual 90, 3) := by decide +kernel
theorem dX3_remove_77 : decode cX3_remove 77 = .ok (.ireturn, 1) := by decide +kernel
theorem dX3_remove_78 : decode cX3_remove 78 = .ok (.aload_n 0, 1) := by decide +kernel
theorem dX3_remove_79 : decode cX3_remove 79 = .ok (.iload_n 2, 1) := by decide +kernel
theorem dX3_remove_80 : decode cX3_remove 80 = .ok (.invokevirtual 93, 3) := by decide +kernel
theorem dX3_remove_83 : decode cX3_remove 83 = .ok (.ireturn, 1) := by decide +kernel
theorem dX3_remove_84 : decode cX3_remove 84 = .ok (.aload_n 0, 1) := by decide +kernel
theorem dX3_remove_85 : decode cX3_remove 85 = .ok (.getfield 19, 3) := by decide +kernel
theorem dX3_remove_88 : decode cX3_remove 88 = .ok (.iload_n 2, 1) := by decide +kernel
theorem dX3_remove_89 : decode cX3_remove 89 = .ok (.invokevirtual 96, 3) := by decide +kernel
theorem dX3_remove_92 : decode cX3_remove 92 = .ok (.aload_n 0, 1) := by decide +kernel
theorem dX3_remove_93 : decode cX3_remove 93 = .ok (.getfield 19, 3) := by decide +kernel
theorem dX3_remove_96 : decode cX3_remove 96 = .ok (.invokevirtual 33, 3) := by decide +kernel
theorem dX3_remove_99 : decode cX3_remove 99 = .ok (.iconst 0, 1) := by decide +kernel
theorem dX3_remove_100 : decode cX3_remove 100 = .ok (.ireturn, 1) := by decide +kernel
theorem dX3_append_0 : decode cX3_append 0 = .ok (.iload_n 1, 1) := by decide +kernel
theorem dX3_append_1 : decode cX3_append 1 = .ok (.bipush 33, 2) := by decide +kernel
theorem dX3_append_3 : decode cX3_append 3 = .ok (.if_icmp .lt 9, 3) := by decide +kernel
theorem dX3_append_6 : decode cX3_append 6 = .ok (.iload_n 1, 1) := by decide +kernel
theorem dX3_append_7 : decode cX3_append 7 = .ok (.bipush 126, 2) := by decide +kernel
theorem dX3_append_9 : decode cX3_append 9 = .ok (.if_icmp .le 13, 3) := by decide +kernel
theorem dX3_append_12 : decode cX3_append 12 = .ok (.new 99, 3) := by decide +kernel
theorem dX3_append_15 : decode cX3_append 15 = .ok (.dup, 1) := by decide +kernel
theorem dX3_append_16 : decode cX3_append 16 = .ok (.ldc 101, 2) := by decide +kernel
theorem dX3_append_18 : decode cX3_append 18 = .ok (.invokespecial 103, 3) := by decide +kernel
theorem dX3_append_21 : decode cX3_append 21 = .ok (.athrow, 1) := by decide +kernel
theorem dX3_append_22 : decode cX3_append 22 = .ok (.aload_n 0, 1) := by decide +kernel
theorem dX3_append_23 : decode cX3_append 23 = .ok (.getfield 12, 3) := by decide +kernel
theorem dX3_append_26 : decode cX3_append 26 = .ok (.getfield 106, 3) := by decide +kernel
theorem dX3_append_29 : decode cX3_append 29 = .ok (.bipush 50, 2) := by decide +kernel
theorem dX3_append_31 : decode cX3_append 31 = .ok (.if_icmp .lt 13, 3) := by decide +kernel
theorem dX3_append_34 : decode cX3_append 34 = .ok (.new 109, 3) := by decide +kernel
theorem dX3_append_37 : decode cX3_append 37 = .ok (.dup, 1) := by decide +kernel
theorem dX3_append_38 : decode cX3_append 38 = .ok (.ldc 111, 2) := by decide +kernel
theorem dX3_append_40 : decode cX3_append 40 = .ok (.invokespecial 113, 3) := by decide +kernel
theorem dX3_append_43 : decode cX3_append 43 = .ok (.athrow, 1) := by decide +kernel
theorem dX3_append_44 : decode cX3_append 44 = .ok (.aload_n 0, 1) := by decide +kernel
theorem dX3_append_45 : decode cX3_append 45 = .ok (.getfield 12, 3) := by decide +kernel
theorem dX3_append_48 : decode cX3_append 48 = .ok (.iload_n 1, 1) := by decide +kernel
theorem dX3_append_49 : decode cX3_append 49 = .ok (.invokevirtual 114, 3) := by decide +kernel
theorem dX3_append_52 : decode cX3_append 52 = .ok (.ireturn, 1) := by decide +kernel
theorem dX3_clearBuffer_0 : decode cX3_clearBuffer 0 = .ok (.aload_n 0, 1) := by decide +kernel
theorem dX3_clearBuffer_1 : decode cX3_clearBuffer 1 = .ok (.getfield 12, 3) := by decide +kernel
theorem dX3_clearBuffer_4 : decode cX3_clearBuffer 4 = .ok (.getfield 106, 3) := by decide +kernel
theorem dX3_clearBuffer_7 : decode cX3_clearBuffer 7 = .ok (.istore_n 1, 1) := by decide +kernel
theorem dX3_clearBuffer_8 : decode cX3_clearBuffer 8 = .ok (.aload_n 0, 1) := by decide +kernel
theorem dX3_clearBuffer_9 : decode cX3_clearBuffer 9 = .ok (.getfield 12, 3) := by decide +kernel
theorem dX3_clearBuffer_12 : decode cX3_clearBuffer 12 = .ok (.iconst 0, 1) := by decide +kernel
theorem dX3_clearBuffer_13 : decode cX3_clearBuffer 13 = .ok (.putfield 106, 3) := by decide +kernel
theorem dX3_clearBuffer_16 : decode cX3_clearBuffer 16 = .ok (.iload_n 1, 1) := by decide +kernel
theorem dX3_clearBuffer_17 : decode cX3_clearBuffer 17 = .ok (.ireturn, 1) := by decide +kernel
theorem dX3_firstError_0 : decode cX3_firstError 0 = .ok (.aload_n 0, 1) := by decide +kernel
theorem dX3_firstError_1 : decode cX3_firstError 1 = .ok (.getfield 12, 3) := by decide +kernel
theorem dX3_firstError_4 : decode cX3_firstError 4 = .ok (.invokevirtual 117, 3) := by decide +kernel
theorem dX3_firstError_7 : decode cX3_firstError 7 = .ok (.ireturn, 1) := by decide +kernel
theorem dX3_load_0 : decode cX3_load 0 = .ok (.aload_n 0, 1) := by decide +kernel
theorem dX3_load_1 : decode cX3_load 1 = .ok (.getfield 12, 3) := by decide +kernel
theorem dX3_load_4 : decode cX3_load 4 = .ok (.invokevirtual 121, 3) := by decide +kernel
theorem dX3_load_7 : decode cX3_load 7 = .ok (.ifCond .ne 13, 3) := by decide +kernel
theorem dX3_load_10 : decode cX3_load 10 = .ok (.new 99, 3) := by decide +kernel
theorem dX3_load_13 : decode cX3_load 13 = .ok (.dup, 1) := by decide +kernel
theorem dX3_load_14 : decode cX3_load 14 = .ok (.ldc 125, 2) := by decide +kernel
theorem dX3_load_16 : decode cX3_load 16 = .ok (.invokespecial 103, 3) := by decide +kernel
theorem dX3_load_19 : decode cX3_load 19 = .ok (.athrow, 1) := by decide +kernel
theorem dX3_load_20 : decode cX3_load 20 = .ok (.aload_n 0, 1) := by decide +kernel
theorem dX3_load_21 : decode cX3_load 21 = .ok (.getfield 23, 3) := by decide +kernel
theorem dX3_load_24 : decode cX3_load 24 = .ok (.aload_n 0, 1) := by decide +kernel
theorem dX3_load_25 : decode cX3_load 25 = .ok (.getfield 19, 3) := by decide +kernel
theorem dX3_load_28 : decode cX3_load 28 = .ok (.invokevirtual 127, 3) := by decide +kernel
theorem dX3_load_31 : decode cX3_load 31 = .ok (.aload_n 0, 1) := by decide +kernel
theorem dX3_load_32 : decode cX3_load 32 = .ok (.getfield 12, 3) := by decide +kernel
theorem dX3_load_35 : decode cX3_load 35 = .ok (.aload_n 0, 1) := by decide +kernel
theorem dX3_load_36 : decode cX3_load 36 = .ok (.getfield 23, 3) := by decide +kernel
theorem dX3_load_39 : decode cX3_load 39 = .ok (.invokevirtual 131, 3) := by decide +kernel
theorem dX3_load_42 : decode cX3_load 42 = .ok (.istore_n 1, 1) := by decide +kernel
theorem dX3_load_43 : decode cX3_load 43 = .ok (.iload_n 1, 1) := by decide +kernel
theorem dX3_load_44 : decode cX3_load 44 = .ok (.iconst (-1), 1) := by decide +kernel
theorem dX3_load_45 : decode cX3_load 45 = .ok (.if_icmp .ne 13, 3) := by decide +kernel
theorem dX3_load_48 : decode cX3_load 48 = .ok (.new 109, 3) := by decide +kernel
theorem dX3_load_51 : decode cX3_load 51 = .ok (.dup, 1) := by decide +kernel
theorem dX3_load_52 : decode cX3_load 52 = .ok (.ldc 135, 2) := by decide +kernel
theorem dX3_load_54 : decode cX3_load 54 = .ok (.invokespecial 113, 3) := by decide +kernel
theorem dX3_load_57 : decode cX3_load 57 = .ok (.athrow, 1) := by decide +kernel
theorem dX3_load_58 : decode cX3_load 58 = .ok (.aload_n 0, 1) := by decide +kernel
theorem dX3_load_59 : decode cX3_load 59 = .ok (.getfield 23, 3) := by decide +kernel
theorem dX3_load_62 : decode cX3_load 62 = .ok (.invokevirtual 33, 3) := by decide +kernel
theorem dX3_load_65 : decode cX3_load 65 = .ok (.aload_n 0, 1) := by decide +kernel
theorem dX3_load_66 : decode cX3_load 66 = .ok (.invokevirtual 137, 3) := by decide +kernel
theorem dX3_load_69 : decode cX3_load 69 = .ok (.aload_n 0, 1) := by decide +kernel
theorem dX3_load_70 : decode cX3_load 70 = .ok (.getfield 12, 3) := by decide +kernel
theorem dX3_load_73 : decode cX3_load 73 = .ok (.iconst 0, 1) := by decide +kernel
theorem dX3_load_74 : decode cX3_load 74 = .ok (.putfield 106, 3) := by decide +kernel
theorem dX3_load_77 : decode cX3_load 77 = .ok (.iload_n 1, 1) := by decide +kernel
theorem dX3_load_78 : decode cX3_load 78 = .ok (.ireturn, 1) := by decide +kernel
theorem dX3_resolve_0 : decode cX3_resolve 0 = .ok (.iload_n 1, 1) := by decide +kernel
theorem dX3_resolve_1 : decode cX3_resolve 1 = .ok (.aload_n 0, 1) := by decide +kernel
theorem dX3_resolve_2 : decode cX3_resolve 2 = .ok (.getfield 19, 3) := by decide +kernel
theorem dX3_resolve_5 : decode cX3_resolve 5 = .ok (.getfield 26, 3) := by decide +kernel
theorem dX3_resolve_8 : decode cX3_resolve 8 = .ok (.invokestatic 87, 3) := by decide +kernel
theorem dX3_resolve_11 : decode cX3_resolve 11 = .ok (.iload_n 2, 1) := by decide +kernel
theorem dX3_resolve_12 : decode cX3_resolve 12 = .ok (.bipush 26, 2) := by decide +kernel
theorem dX3_resolve_14 : decode cX3_resolve 14 = .ok (.invokestatic 74, 3) := by decide +kernel
theorem dX3_resolve_17 : decode cX3_resolve 17 = .ok (.iload_n 3, 1) := by decide +kernel
theorem dX3_resolve_18 : decode cX3_resolve 18 = .ok (.iconst 5, 1) := by decide +kernel
theorem dX3_resolve_19 : decode cX3_resolve 19 = .ok (.invokestatic 74, 3) := by decide +kernel
theorem dX3_resolve_22 : decode cX3_resolve 22 = .ok (.aload_n 0, 1) := by decide +kernel
theorem dX3_resolve_23 : decode cX3_resolve 23 = .ok (.getfield 19, 3) := by decide +kernel
theorem dX3_resolve_26 : decode cX3_resolve 26 = .ok (.iload_n 1, 1) := by decide +kernel
theorem dX3_resolve_27 : decode cX3_resolve 27 = .ok (.iload_n 2, 1) := by decide +kernel
theorem dX3_resolve_28 : decode cX3_resolve 28 = .ok (.iconst 0, 1) := by decide +kernel
theorem dX3_resolve_29 : decode cX3_resolve 29 = .ok (.invokevirtual 140, 3) := by decide +kernel
theorem dX3_resolve_32 : decode cX3_resolve 32 = .ok (.istore 4, 2) := by decide +kernel
theorem dX3_resolve_34 : decode cX3_resolve 34 = .ok (.iload_n 3, 1) := by decide +kernel
theorem dX3_resolve_35 : decode cX3_resolve 35 = .ok (.tableswitch 85 0 3 #[29, 42, 55, 70], 29) := by decide +kernel
theorem dX3_resolve_64 : decode cX3_resolve 64 = .ok (.aload_n 0, 1) := by decide +kernel
theorem dX3_resolve_65 : decode cX3_resolve 65 = .ok (.getfield 19, 3) := by decide +kernel
theorem dX3_resolve_68 : decode cX3_resolve 68 = .ok (.iload_n 1, 1) := by decide +kernel
theorem dX3_resolve_69 : decode cX3_resolve 69 = .ok (.iload_n 2, 1) := by decide +kernel
theorem dX3_resolve_70 : decode cX3_resolve 70 = .ok (.invokevirtual 143, 3) := by decide +kernel
theorem dX3_resolve_73 : decode cX3_resolve 73 = .ok (.invokestatic 146, 3) := by decide +kernel
theorem dX3_resolve_76 : decode cX3_resolve 76 = .ok (.ireturn, 1) := by decide +kernel
theorem dX3_resolve_77 : decode cX3_resolve 77 = .ok (.aload_n 0, 1) := by decide +kernel
theorem dX3_resolve_78 : decode cX3_resolve 78 = .ok (.getfield 19, 3) := by decide +kernel
theorem dX3_resolve_81 : decode cX3_resolve 81 = .ok (.iload_n 1, 1) := by decide +kernel
theorem dX3_resolve_82 : decode cX3_resolve 82 = .ok (.iload_n 2, 1) := by decide +kernel
theorem dX3_resolve_83 : decode cX3_resolve 83 = .ok (.invokevirtual 143, 3) := by decide +kernel
theorem dX3_resolve_86 : decode cX3_resolve 86 = .ok (.invokestatic 149, 3) := by decide +kernel
theorem dX3_resolve_89 : decode cX3_resolve 89 = .ok (.ireturn, 1) := by decide +kernel
theorem dX3_resolve_90 : decode cX3_resolve 90 = .ok (.iload 4, 2) := by decide +kernel
theorem dX3_resolve_92 : decode cX3_resolve 92 = .ok (.iconst (-1), 1) := by decide +kernel
theorem dX3_resolve_93 : decode cX3_resolve 93 = .ok (.if_icmp .ne 7, 3) := by decide +kernel
theorem dX3_resolve_96 : decode cX3_resolve 96 = .ok (.iconst (-1), 1) := by decide +kernel
theorem dX3_resolve_97 : decode cX3_resolve 97 = .ok (.goto 7, 3) := by decide +kernel
theorem dX3_resolve_100 : decode cX3_resolve 100 = .ok (.iload 4, 2) := by decide +kernel
theorem dX3_resolve_102 : decode cX3_resolve 102 = .ok (.iconst 3, 1) := by decide +kernel
theorem dX3_resolve_103 : decode cX3_resolve 103 = .ok (.irem, 1) := by decide +kernel
theorem dX3_resolve_104 : decode cX3_resolve 104 = .ok (.ireturn, 1) := by decide +kernel
theorem dX3_resolve_105 : decode cX3_resolve 105 = .ok (.iload 4, 2) := by decide +kernel
theorem dX3_resolve_107 : decode cX3_resolve 107 = .ok (.iconst (-1), 1) := by decide +kernel
theorem dX3_resolve_108 : decode cX3_resolve 108 = .ok (.if_icmp .ne 7, 3) := by decide +kernel
theorem dX3_resolve_111 : decode cX3_resolve 111 = .ok (.iconst (-1), 1) := by decide +kernel
theorem dX3_resolve_112 : decode cX3_resolve 112 = .ok (.goto 7, 3) := by decide +kernel
theorem dX3_resolve_115 : decode cX3_resolve 115 = .ok (.iload 4, 2) := by decide +kernel
theorem dX3_resolve_117 : decode cX3_resolve 117 = .ok (.iconst 3, 1) := by decide +kernel
theorem dX3_resolve_118 : decode cX3_resolve 118 = .ok (.idiv, 1) := by decide +kernel
theorem dX3_resolve_119 : decode cX3_resolve 119 = .ok (.ireturn, 1) := by decide +kernel
theorem dX3_resolve_120 : decode cX3_resolve 120 = .ok (.iconst 0, 1) := by decide +kernel
theorem dX3_resolve_121 : decode cX3_resolve 121 = .ok (.aload_n 0, 1) := by decide +kernel
theorem dX3_resolve_122 : decode cX3_resolve 122 = .ok (.getfield 19, 3) := by decide +kernel
theorem dX3_resolve_125 : decode cX3_resolve 125 = .ok (.iload_n 1, 1) := by decide +kernel
theorem dX3_resolve_126 : decode cX3_resolve 126 = .ok (.iload_n 2, 1) := by decide +kernel
theorem dX3_resolve_127 : decode cX3_resolve 127 = .ok (.invokevirtual 154, 3) := by decide +kernel
theorem dX3_resolve_130 : decode cX3_resolve 130 = .ok (.iconst 1, 1) := by decide +kernel
theorem dX3_resolve_131 : decode cX3_resolve 131 = .ok (.isub, 1) := by decide +kernel
theorem dX3_resolve_132 : decode cX3_resolve 132 = .ok (.invokestatic 157, 3) := by decide +kernel
theorem dX3_resolve_135 : decode cX3_resolve 135 = .ok (.ireturn, 1) := by decide +kernel
theorem dX3_candidate_0 : decode cX3_candidate 0 = .ok (.iload_n 1, 1) := by decide +kernel
theorem dX3_candidate_1 : decode cX3_candidate 1 = .ok (.aload_n 0, 1) := by decide +kernel
theorem dX3_candidate_2 : decode cX3_candidate 2 = .ok (.getfield 19, 3) := by decide +kernel
theorem dX3_candidate_5 : decode cX3_candidate 5 = .ok (.getfield 26, 3) := by decide +kernel
theorem dX3_candidate_8 : decode cX3_candidate 8 = .ok (.invokestatic 87, 3) := by decide +kernel
theorem dX3_candidate_11 : decode cX3_candidate 11 = .ok (.iload_n 2, 1) := by decide +kernel
theorem dX3_candidate_12 : decode cX3_candidate 12 = .ok (.bipush 26, 2) := by decide +kernel
theorem dX3_candidate_14 : decode cX3_candidate 14 = .ok (.invokestatic 74, 3) := by decide +kernel
theorem dX3_candidate_17 : decode cX3_candidate 17 = .ok (.iload_n 3, 1) := by decide +kernel
theorem dX3_candidate_18 : decode cX3_candidate 18 = .ok (.ifCond .ge 7, 3) := by decide +kernel
theorem dX3_candidate_21 : decode cX3_candidate 21 = .ok (.iconst (-1), 1) := by decide +kernel
theorem dX3_candidate_22 : decode cX3_candidate 22 = .ok (.goto 13, 3) := by decide +kernel
theorem dX3_candidate_25 : decode cX3_candidate 25 = .ok (.aload_n 0, 1) := by decide +kernel
theorem dX3_candidate_26 : decode cX3_candidate 26 = .ok (.getfield 19, 3) := by decide +kernel
theorem dX3_candidate_29 : decode cX3_candidate 29 = .ok (.iload_n 1, 1) := by decide +kernel
theorem dX3_candidate_30 : decode cX3_candidate 30 = .ok (.iload_n 2, 1) := by decide +kernel
theorem dX3_candidate_31 : decode cX3_candidate 31 = .ok (.iload_n 3, 1) := by decide +kernel
theorem dX3_candidate_32 : decode cX3_candidate 32 = .ok (.invokevirtual 140, 3) := by decide +kernel
theorem dX3_candidate_35 : decode cX3_candidate 35 = .ok (.istore 5, 2) := by decide +kernel
theorem dX3_candidate_37 : decode cX3_candidate 37 = .ok (.iload 5, 2) := by decide +kernel
theorem dX3_candidate_39 : decode cX3_candidate 39 = .ok (.iconst (-1), 1) := by decide +kernel
theorem dX3_candidate_40 : decode cX3_candidate 40 = .ok (.if_icmp .ne 7, 3) := by decide +kernel
theorem dX3_candidate_43 : decode cX3_candidate 43 = .ok (.iconst (-1), 1) := by decide +kernel
theorem dX3_candidate_44 : decode cX3_candidate 44 = .ok (.goto 19, 3) := by decide +kernel
theorem dX3_candidate_47 : decode cX3_candidate 47 = .ok (.aload_n 0, 1) := by decide +kernel
theorem dX3_candidate_48 : decode cX3_candidate 48 = .ok (.getfield 19, 3) := by decide +kernel
theorem dX3_candidate_51 : decode cX3_candidate 51 = .ok (.iload_n 1, 1) := by decide +kernel
theorem dX3_candidate_52 : decode cX3_candidate 52 = .ok (.iload_n 2, 1) := by decide +kernel
theorem dX3_candidate_53 : decode cX3_candidate 53 = .ok (.iload 5, 2) := by decide +kernel
theorem dX3_candidate_55 : decode cX3_candidate 55 = .ok (.invokevirtual 162, 3) := by decide +kernel
theorem dX3_candidate_58 : decode cX3_candidate 58 = .ok (.iload 4, 2) := by decide +kernel
theorem dX3_candidate_60 : decode cX3_candidate 60 = .ok (.invokestatic 165, 3) := by decide +kernel
theorem dX3_candidate_63 : decode cX3_candidate 63 = .ok (.ireturn, 1) := by decide +kernel
theorem dX3_offers_0 : decode cX3_offers 0 = .ok (.iload_n 1, 1) := by decide +kernel
theorem dX3_offers_1 : decode cX3_offers 1 = .ok (.aload_n 0, 1) := by decide +kernel
theorem dX3_offers_2 : decode cX3_offers 2 = .ok (.getfield 19, 3) := by decide +kernel
theorem dX3_offers_5 : decode cX3_offers 5 = .ok (.getfield 26, 3) := by decide +kernel
theorem dX3_offers_8 : decode cX3_offers 8 = .ok (.invokestatic 87, 3) := by decide +kernel
theorem dX3_offers_11 : decode cX3_offers 11 = .ok (.iload_n 2, 1) := by decide +kernel
theorem dX3_offers_12 : decode cX3_offers 12 = .ok (.bipush 26, 2) := by decide +kernel
theorem dX3_offers_14 : decode cX3_offers 14 = .ok (.invokestatic 74, 3) := by decide +kernel
theorem dX3_offers_17 : decode cX3_offers 17 = .ok (.aload_n 0, 1) := by decide +kernel
theorem dX3_offers_18 : decode cX3_offers 18 = .ok (.getfield 19, 3) := by decide +kernel
theorem dX3_offers_21 : decode cX3_offers 21 = .ok (.getfield 168, 3) := by decide +kernel
theorem dX3_offers_24 : decode cX3_offers 24 = .ok (.getfield 172, 3) := by decide +kernel
theorem dX3_offers_27 : decode cX3_offers 27 = .ok (.iload_n 1, 1) := by decide +kernel
theorem dX3_offers_28 : decode cX3_offers 28 = .ok (.bipush 26, 2) := by decide +kernel
theorem dX3_offers_30 : decode cX3_offers 30 = .ok (.imul, 1) := by decide +kernel
theorem dX3_offers_31 : decode cX3_offers 31 = .ok (.iload_n 2, 1) := by decide +kernel
theorem dX3_offers_32 : decode cX3_offers 32 = .ok (.iadd, 1) := by decide +kernel
theorem dX3_offers_33 : decode cX3_offers 33 = .ok (.iaload, 1) := by decide +kernel
theorem dX3_offers_34 : decode cX3_offers 34 = .ok (.invokestatic 149, 3) := by decide +kernel
theorem dX3_offers_37 : decode cX3_offers 37 = .ok (.ireturn, 1) := by decide +kernel
theorem dX3_visible_0 : decode cX3_visible 0 = .ok (.iload_n 1, 1) := by decide +kernel
theorem dX3_visible_1 : decode cX3_visible 1 = .ok (.aload_n 0, 1) := by decide +kernel
theorem dX3_visible_2 : decode cX3_visible 2 = .ok (.getfield 19, 3) := by decide +kernel
theorem dX3_visible_5 : decode cX3_visible 5 = .ok (.getfield 26, 3) := by decide +kernel
theorem dX3_visible_8 : decode cX3_visible 8 = .ok (.invokestatic 87, 3) := by decide +kernel
theorem dX3_visible_11 : decode cX3_visible 11 = .ok (.iconst 0, 1) := by decide +kernel
theorem dX3_visible_12 : decode cX3_visible 12 = .ok (.istore_n 3, 1) := by decide +kernel
theorem dX3_visible_13 : decode cX3_visible 13 = .ok (.iconst 0, 1) := by decide +kernel
theorem dX3_visible_14 : decode cX3_visible 14 = .ok (.istore 4, 2) := by decide +kernel
theorem dX3_visible_16 : decode cX3_visible 16 = .ok (.iload 4, 2) := by decide +kernel
theorem dX3_visible_18 : decode cX3_visible 18 = .ok (.bipush 26, 2) := by decide +kernel
theorem dX3_visible_20 : decode cX3_visible 20 = .ok (.if_icmp .ge 50, 3) := by decide +kernel
theorem dX3_visible_23 : decode cX3_visible 23 = .ok (.aload_n 0, 1) := by decide +kernel
theorem dX3_visible_24 : decode cX3_visible 24 = .ok (.getfield 19, 3) := by decide +kernel
theorem dX3_visible_27 : decode cX3_visible 27 = .ok (.iload_n 1, 1) := by decide +kernel
theorem dX3_visible_28 : decode cX3_visible 28 = .ok (.iload 4, 2) := by decide +kernel
theorem dX3_visible_30 : decode cX3_visible 30 = .ok (.invokevirtual 143, 3) := by decide +kernel
theorem dX3_visible_33 : decode cX3_visible 33 = .ok (.invokestatic 149, 3) := by decide +kernel
theorem dX3_visible_36 : decode cX3_visible 36 = .ok (.istore 5, 2) := by decide +kernel
theorem dX3_visible_38 : decode cX3_visible 38 = .ok (.iload_n 2, 1) := by decide +kernel
theorem dX3_visible_39 : decode cX3_visible 39 = .ok (.ifCond .eq 12, 3) := by decide +kernel
theorem dX3_visible_42 : decode cX3_visible 42 = .ok (.iload 5, 2) := by decide +kernel
theorem dX3_visible_44 : decode cX3_visible 44 = .ok (.iconst 1, 1) := by decide +kernel
theorem dX3_visible_45 : decode cX3_visible 45 = .ok (.if_icmp .le 19, 3) := by decide +kernel
theorem dX3_visible_48 : decode cX3_visible 48 = .ok (.goto 9, 3) := by decide +kernel
theorem dX3_visible_51 : decode cX3_visible 51 = .ok (.iload 5, 2) := by decide +kernel
theorem dX3_visible_53 : decode cX3_visible 53 = .ok (.iconst 1, 1) := by decide +kernel
theorem dX3_visible_54 : decode cX3_visible 54 = .ok (.if_icmp .ne 10, 3) := by decide +kernel
theorem dX3_visible_57 : decode cX3_visible 57 = .ok (.iload_n 3, 1) := by decide +kernel
theorem dX3_visible_58 : decode cX3_visible 58 = .ok (.iconst 1, 1) := by decide +kernel
theorem dX3_visible_59 : decode cX3_visible 59 = .ok (.iload 4, 2) := by decide +kernel
theorem dX3_visible_61 : decode cX3_visible 61 = .ok (.ishl, 1) := by decide +kernel
theorem dX3_visible_62 : decode cX3_visible 62 = .ok (.ior, 1) := by decide +kernel
theorem dX3_visible_63 : decode cX3_visible 63 = .ok (.istore_n 3, 1) := by decide +kernel
theorem dX3_visible_64 : decode cX3_visible 64 = .ok (.iinc 4 1, 3) := by decide +kernel
theorem dX3_visible_67 : decode cX3_visible 67 = .ok (.goto (-51), 3) := by decide +kernel
theorem dX3_visible_70 : decode cX3_visible 70 = .ok (.iload_n 3, 1) := by decide +kernel
theorem dX3_visible_71 : decode cX3_visible 71 = .ok (.ireturn, 1) := by decide +kernel
theorem dX3_rename_0 : decode cX3_rename 0 = .ok (.iload_n 1, 1) := by decide +kernel
theorem dX3_rename_1 : decode cX3_rename 1 = .ok (.aload_n 0, 1) := by decide +kernel
theorem dX3_rename_2 : decode cX3_rename 2 = .ok (.getfield 19, 3) := by decide +kernel
theorem dX3_rename_5 : decode cX3_rename 5 = .ok (.getfield 78, 3) := by decide +kernel
theorem dX3_rename_8 : decode cX3_rename 8 = .ok (.invokestatic 87, 3) := by decide +kernel
theorem dX3_rename_11 : decode cX3_rename 11 = .ok (.iload_n 2, 1) := by decide +kernel
theorem dX3_rename_12 : decode cX3_rename 12 = .ok (.bipush 26, 2) := by decide +kernel
theorem dX3_rename_14 : decode cX3_rename 14 = .ok (.invokestatic 74, 3) := by decide +kernel
theorem dX3_rename_17 : decode cX3_rename 17 = .ok (.aload_n 0, 1) := by decide +kernel
theorem dX3_rename_18 : decode cX3_rename 18 = .ok (.iload_n 1, 1) := by decide +kernel
theorem dX3_rename_19 : decode cX3_rename 19 = .ok (.iload_n 2, 1) := by decide +kernel
theorem dX3_rename_20 : decode cX3_rename 20 = .ok (.invokevirtual 178, 3) := by decide +kernel
theorem dX3_rename_23 : decode cX3_rename 23 = .ok (.istore_n 3, 1) := by decide +kernel
theorem dX3_rename_24 : decode cX3_rename 24 = .ok (.iload_n 3, 1) := by decide +kernel
theorem dX3_rename_25 : decode cX3_rename 25 = .ok (.ifCond .ne 7, 3) := by decide +kernel
theorem dX3_rename_28 : decode cX3_rename 28 = .ok (.aload_n 0, 1) := by decide +kernel
theorem dX3_rename_29 : decode cX3_rename 29 = .ok (.invokevirtual 137, 3) := by decide +kernel
theorem dX3_rename_32 : decode cX3_rename 32 = .ok (.iload_n 3, 1) := by decide +kernel
theorem dX3_rename_33 : decode cX3_rename 33 = .ok (.ireturn, 1) := by decide +kernel
theorem dX3_ifRenamed_0 : decode cX3_ifRenamed 0 = .ok (.iload_n 1, 1) := by decide +kernel
theorem dX3_ifRenamed_1 : decode cX3_ifRenamed 1 = .ok (.aload_n 0, 1) := by decide +kernel
theorem dX3_ifRenamed_2 : decode cX3_ifRenamed 2 = .ok (.getfield 19, 3) := by decide +kernel
theorem dX3_ifRenamed_5 : decode cX3_ifRenamed 5 = .ok (.getfield 78, 3) := by decide +kernel
theorem dX3_ifRenamed_8 : decode cX3_ifRenamed 8 = .ok (.invokestatic 87, 3) := by decide +kernel
theorem dX3_ifRenamed_11 : decode cX3_ifRenamed 11 = .ok (.iload_n 2, 1) := by decide +kernel
theorem dX3_ifRenamed_12 : decode cX3_ifRenamed 12 = .ok (.bipush 26, 2) := by decide +kernel
theorem dX3_ifRenamed_14 : decode cX3_ifRenamed 14 = .ok (.invokestatic 74, 3) := by decide +kernel
theorem dX3_ifRenamed_17 : decode cX3_ifRenamed 17 = .ok (.iload_n 3, 1) := by decide +kernel
theorem dX3_ifRenamed_18 : decode cX3_ifRenamed 18 = .ok (.iconst 3, 1) := by decide +kernel
theorem dX3_ifRenamed_19 : decode cX3_ifRenamed 19 = .ok (.invokestatic 74, 3) := by decide +kernel
theorem dX3_ifRenamed_22 : decode cX3_ifRenamed 22 = .ok (.iload_n 3, 1) := by decide +kernel
theorem dX3_ifRenamed_23 : decode cX3_ifRenamed 23 = .ok (.iconst 2, 1) := by decide +kernel
theorem dX3_ifRenamed_24 : decode cX3_ifRenamed 24 = .ok (.if_icmp .ne 9, 3) := by decide +kernel
theorem dX3_ifRenamed_27 : decode cX3_ifRenamed 27 = .ok (.aload_n 0, 1) := by decide +kernel
theorem dX3_ifRenamed_28 : decode cX3_ifRenamed 28 = .ok (.iload_n 1, 1) := by decide +kernel
theorem dX3_ifRenamed_29 : decode cX3_ifRenamed 29 = .ok (.invokevirtual 181, 3) := by decide +kernel
theorem dX3_ifRenamed_32 : decode cX3_ifRenamed 32 = .ok (.ireturn, 1) := by decide +kernel
theorem dX3_ifRenamed_33 : decode cX3_ifRenamed 33 = .ok (.aload_n 0, 1) := by decide +kernel
theorem dX3_ifRenamed_34 : decode cX3_ifRenamed 34 = .ok (.iload_n 1, 1) := by decide +kernel
theorem dX3_ifRenamed_35 : decode cX3_ifRenamed 35 = .ok (.iload_n 2, 1) := by decide +kernel
theorem dX3_ifRenamed_36 : decode cX3_ifRenamed 36 = .ok (.invokevirtual 178, 3) := by decide +kernel
theorem dX3_ifRenamed_39 : decode cX3_ifRenamed 39 = .ok (.istore 4, 2) := by decide +kernel
theorem dX3_ifRenamed_41 : decode cX3_ifRenamed 41 = .ok (.iload_n 3, 1) := by decide +kernel
theorem dX3_ifRenamed_42 : decode cX3_ifRenamed 42 = .ok (.ifCond .ne 6, 3) := by decide +kernel
theorem dX3_ifRenamed_45 : decode cX3_ifRenamed 45 = .ok (.iload 4, 2) := by decide +kernel
theorem dX3_ifRenamed_47 : decode cX3_ifRenamed 47 = .ok (.ireturn, 1) := by decide +kernel
theorem dX3_ifRenamed_48 : decode cX3_ifRenamed 48 = .ok (.iload 4, 2) := by decide +kernel
theorem dX3_ifRenamed_50 : decode cX3_ifRenamed 50 = .ok (.iconst 2, 1) := by decide +kernel
theorem dX3_ifRenamed_51 : decode cX3_ifRenamed 51 = .ok (.if_icmp .eq 9, 3) := by decide +kernel
theorem dX3_ifRenamed_54 : decode cX3_ifRenamed 54 = .ok (.iload 4, 2) := by decide +kernel
theorem dX3_ifRenamed_56 : decode cX3_ifRenamed 56 = .ok (.iconst 3, 1) := by decide +kernel
theorem dX3_ifRenamed_57 : decode cX3_ifRenamed 57 = .ok (.if_icmp .ne 22, 3) := by decide +kernel
theorem dX3_ifRenamed_60 : decode cX3_ifRenamed 60 = .ok (.aload_n 0, 1) := by decide +kernel
theorem dX3_ifRenamed_61 : decode cX3_ifRenamed 61 = .ok (.iload_n 1, 1) := by decide +kernel
theorem dX3_ifRenamed_62 : decode cX3_ifRenamed 62 = .ok (.iload 4, 2) := by decide +kernel
theorem dX3_ifRenamed_64 : decode cX3_ifRenamed 64 = .ok (.iconst 2, 1) := by decide +kernel
theorem dX3_ifRenamed_65 : decode cX3_ifRenamed 65 = .ok (.if_icmp .ne 7, 3) := by decide +kernel
theorem dX3_ifRenamed_68 : decode cX3_ifRenamed 68 = .ok (.iconst 1, 1) := by decide +kernel
theorem dX3_ifRenamed_69 : decode cX3_ifRenamed 69 = .ok (.goto 4, 3) := by decide +kernel
theorem dX3_ifRenamed_72 : decode cX3_ifRenamed 72 = .ok (.iconst 0, 1) := by decide +kernel
theorem dX3_ifRenamed_73 : decode cX3_ifRenamed 73 = .ok (.invokevirtual 184, 3) := by decide +kernel
theorem dX3_ifRenamed_76 : decode cX3_ifRenamed 76 = .ok (.goto 4, 3) := by decide +kernel
theorem dX3_ifRenamed_79 : decode cX3_ifRenamed 79 = .ok (.iconst (-1), 1) := by decide +kernel
theorem dX3_ifRenamed_80 : decode cX3_ifRenamed 80 = .ok (.ireturn, 1) := by decide +kernel
theorem dX3_freeName_0 : decode cX3_freeName 0 = .ok (.iload_n 1, 1) := by decide +kernel
theorem dX3_freeName_1 : decode cX3_freeName 1 = .ok (.aload_n 0, 1) := by decide +kernel
theorem dX3_freeName_2 : decode cX3_freeName 2 = .ok (.getfield 19, 3) := by decide +kernel
theorem dX3_freeName_5 : decode cX3_freeName 5 = .ok (.getfield 78, 3) := by decide +kernel
theorem dX3_freeName_8 : decode cX3_freeName 8 = .ok (.invokestatic 87, 3) := by decide +kernel
theorem dX3_freeName_11 : decode cX3_freeName 11 = .ok (.iconst 0, 1) := by decide +kernel
theorem dX3_freeName_12 : decode cX3_freeName 12 = .ok (.istore_n 2, 1) := by decide +kernel
theorem dX3_freeName_13 : decode cX3_freeName 13 = .ok (.iload_n 2, 1) := by decide +kernel
theorem dX3_freeName_14 : decode cX3_freeName 14 = .ok (.bipush 26, 2) := by decide +kernel
theorem dX3_freeName_16 : decode cX3_freeName 16 = .ok (.if_icmp .ge 20, 3) := by decide +kernel
theorem dX3_freeName_19 : decode cX3_freeName 19 = .ok (.aload_n 0, 1) := by decide +kernel
theorem dX3_freeName_20 : decode cX3_freeName 20 = .ok (.iload_n 1, 1) := by decide +kernel
theorem dX3_freeName_21 : decode cX3_freeName 21 = .ok (.iload_n 2, 1) := by decide +kernel
theorem dX3_freeName_22 : decode cX3_freeName 22 = .ok (.invokevirtual 178, 3) := by decide +kernel
theorem dX3_freeName_25 : decode cX3_freeName 25 = .ok (.ifCond .ne 5, 3) := by decide +kernel
theorem dX3_freeName_28 : decode cX3_freeName 28 = .ok (.iload_n 2, 1) := by decide +kernel
theorem dX3_freeName_29 : decode cX3_freeName 29 = .ok (.ireturn, 1) := by decide +kernel
theorem dX3_freeName_30 : decode cX3_freeName 30 = .ok (.iinc 2 1, 3) := by decide +kernel
theorem dX3_freeName_33 : decode cX3_freeName 33 = .ok (.goto (-20), 3) := by decide +kernel
theorem dX3_freeName_36 : decode cX3_freeName 36 = .ok (.iconst (-1), 1) := by decide +kernel
theorem dX3_freeName_37 : decode cX3_freeName 37 = .ok (.ireturn, 1) := by decide +kernel
theorem dX3_count_0 : decode cX3_count 0 = .ok (.iload_n 1, 1) := by decide +kernel
theorem dX3_count_1 : decode cX3_count 1 = .ok (.bipush 11, 2) := by decide +kernel
theorem dX3_count_3 : decode cX3_count 3 = .ok (.invokestatic 74, 3) := by decide +kernel
theorem dX3_count_6 : decode cX3_count 6 = .ok (.iload_n 1, 1) := by decide +kernel
theorem dX3_count_7 : decode cX3_count 7 = .ok (.tableswitch 141 0 9 #[53, 61, 69, 77, 85, 94, 112, 120, 125, 133], 53) := by decide +kernel
theorem dX3_count_60 : decode cX3_count 60 = .ok (.aload_n 0, 1) := by decide +kernel
theorem dX3_count_61 : decode cX3_count 61 = .ok (.getfield 19, 3) := by decide +kernel
theorem dX3_count_64 : decode cX3_count 64 = .ok (.getfield 26, 3) := by decide +kernel
theorem dX3_count_67 : decode cX3_count 67 = .ok (.ireturn, 1) := by decide +kernel
theorem dX3_count_68 : decode cX3_count 68 = .ok (.aload_n 0, 1) := by decide +kernel
theorem dX3_count_69 : decode cX3_count 69 = .ok (.getfield 19, 3) := by decide +kernel
theorem dX3_count_72 : decode cX3_count 72 = .ok (.getfield 78, 3) := by decide +kernel
theorem dX3_count_75 : decode cX3_count 75 = .ok (.ireturn, 1) := by decide +kernel
theorem dX3_count_76 : decode cX3_count 76 = .ok (.aload_n 0, 1) := by decide +kernel
theorem dX3_count_77 : decode cX3_count 77 = .ok (.getfield 19, 3) := by decide +kernel
theorem dX3_count_80 : decode cX3_count 80 = .ok (.getfield 81, 3) := by decide +kernel
theorem dX3_count_83 : decode cX3_count 83 = .ok (.ireturn, 1) := by decide +kernel
theorem dX3_count_84 : decode cX3_count 84 = .ok (.aload_n 0, 1) := by decide +kernel
theorem dX3_count_85 : decode cX3_count 85 = .ok (.getfield 19, 3) := by decide +kernel
theorem dX3_count_88 : decode cX3_count 88 = .ok (.getfield 84, 3) := by decide +kernel
theorem dX3_count_91 : decode cX3_count 91 = .ok (.ireturn, 1) := by decide +kernel
theorem dX3_count_92 : decode cX3_count 92 = .ok (.aload_n 0, 1) := by decide +kernel
theorem dX3_count_93 : decode cX3_count 93 = .ok (.getfield 19, 3) := by decide +kernel
theorem dX3_count_96 : decode cX3_count 96 = .ok (.iconst 0, 1) := by decide +kernel
theorem dX3_count_97 : decode cX3_count 97 = .ok (.invokevirtual 188, 3) := by decide +kernel
theorem dX3_count_100 : decode cX3_count 100 = .ok (.ireturn, 1) := by decide +kernel
theorem dX3_count_101 : decode cX3_count 101 = .ok (.aload_n 0, 1) := by decide +kernel
theorem dX3_count_102 : decode cX3_count 102 = .ok (.getfield 19, 3) := by decide +kernel
theorem dX3_count_105 : decode cX3_count 105 = .ok (.iconst 2, 1) := by decide +kernel
theorem dX3_count_106 : decode cX3_count 106 = .ok (.invokevirtual 188, 3) := by decide +kernel
theorem dX3_count_109 : decode cX3_count 109 = .ok (.aload_n 0, 1) := by decide +kernel
theorem dX3_count_110 : decode cX3_count 110 = .ok (.getfield 19, 3) := by decide +kernel
theorem dX3_count_113 : decode cX3_count 113 = .ok (.iconst 3, 1) := by decide +kernel
theorem dX3_count_114 : decode cX3_count 114 = .ok (.invokevirtual 188, 3) := by decide +kernel
theorem dX3_count_117 : decode cX3_count 117 = .ok (.iadd, 1) := by decide +kernel
theorem dX3_count_118 : decode cX3_count 118 = .ok (.ireturn, 1) := by decide +kernel
theorem dX3_count_119 : decode cX3_count 119 = .ok (.aload_n 0, 1) := by decide +kernel
theorem dX3_count_120 : decode cX3_count 120 = .ok (.getfield 19, 3) := by decide +kernel
theorem dX3_count_123 : decode cX3_count 123 = .ok (.invokevirtual 191, 3) := by decide +kernel
theorem dX3_count_126 : decode cX3_count 126 = .ok (.ireturn, 1) := by decide +kernel
theorem dX3_count_127 : decode cX3_count 127 = .ok (.aload_n 0, 1) := by decide +kernel
theorem dX3_count_128 : decode cX3_count 128 = .ok (.invokevirtual 194, 3) := by decide +kernel
theorem dX3_count_131 : decode cX3_count 131 = .ok (.ireturn, 1) := by decide +kernel
theorem dX3_count_132 : decode cX3_count 132 = .ok (.aload_n 0, 1) := by decide +kernel
theorem dX3_count_133 : decode cX3_count 133 = .ok (.getfield 19, 3) := by decide +kernel
theorem dX3_count_136 : decode cX3_count 136 = .ok (.invokevirtual 197, 3) := by decide +kernel
theorem dX3_count_139 : decode cX3_count 139 = .ok (.ireturn, 1) := by decide +kernel
theorem dX3_count_140 : decode cX3_count 140 = .ok (.aload_n 0, 1) := by decide +kernel
theorem dX3_count_141 : decode cX3_count 141 = .ok (.getfield 19, 3) := by decide +kernel
theorem dX3_count_144 : decode cX3_count 144 = .ok (.invokevirtual 200, 3) := by decide +kernel
theorem dX3_count_147 : decode cX3_count 147 = .ok (.ireturn, 1) := by decide +kernel
theorem dX3_count_148 : decode cX3_count 148 = .ok (.aload_n 0, 1) := by decide +kernel
theorem dX3_count_149 : decode cX3_count 149 = .ok (.getfield 19, 3) := by decide +kernel
theorem dX3_count_152 : decode cX3_count 152 = .ok (.invokevirtual 203, 3) := by decide +kernel
theorem dX3_count_155 : decode cX3_count 155 = .ok (.ireturn, 1) := by decide +kernel
theorem dX3_declaration_0 : decode cX3_declaration 0 = .ok (.iload_n 1, 1) := by decide +kernel
theorem dX3_declaration_1 : decode cX3_declaration 1 = .ok (.aload_n 0, 1) := by decide +kernel
theorem dX3_declaration_2 : decode cX3_declaration 2 = .ok (.getfield 19, 3) := by decide +kernel
theorem dX3_declaration_5 : decode cX3_declaration 5 = .ok (.getfield 78, 3) := by decide +kernel
theorem dX3_declaration_8 : decode cX3_declaration 8 = .ok (.invokestatic 87, 3) := by decide +kernel
theorem dX3_declaration_11 : decode cX3_declaration 11 = .ok (.iload_n 2, 1) := by decide +kernel
theorem dX3_declaration_12 : decode cX3_declaration 12 = .ok (.bipush 6, 2) := by decide +kernel
theorem dX3_declaration_14 : decode cX3_declaration 14 = .ok (.invokestatic 74, 3) := by decide +kernel
theorem dX3_declaration_17 : decode cX3_declaration 17 = .ok (.iload_n 2, 1) := by decide +kernel
theorem dX3_declaration_18 : decode cX3_declaration 18 = .ok (.tableswitch 82 0 4 #[34, 44, 54, 64, 73], 34) := by decide +kernel
theorem dX3_declaration_52 : decode cX3_declaration 52 = .ok (.aload_n 0, 1) := by decide +kernel
theorem dX3_declaration_53 : decode cX3_declaration 53 = .ok (.getfield 19, 3) := by decide +kernel
theorem dX3_declaration_56 : decode cX3_declaration 56 = .ok (.getfield 206, 3) := by decide +kernel
theorem dX3_declaration_59 : decode cX3_declaration 59 = .ok (.iload_n 1, 1) := by decide +kernel
theorem dX3_declaration_60 : decode cX3_declaration 60 = .ok (.iaload, 1) := by decide +kernel
theorem dX3_declaration_61 : decode cX3_declaration 61 = .ok (.ireturn, 1) := by decide +kernel
theorem dX3_declaration_62 : decode cX3_declaration 62 = .ok (.aload_n 0, 1) := by decide +kernel
theorem dX3_declaration_63 : decode cX3_declaration 63 = .ok (.getfield 19, 3) := by decide +kernel
theorem dX3_declaration_66 : decode cX3_declaration 66 = .ok (.getfield 209, 3) := by decide +kernel
theorem dX3_declaration_69 : decode cX3_declaration 69 = .ok (.iload_n 1, 1) := by decide +kernel
theorem dX3_declaration_70 : decode cX3_declaration 70 = .ok (.iaload, 1) := by decide +kernel
theorem dX3_declaration_71 : decode cX3_declaration 71 = .ok (.ireturn, 1) := by decide +kernel
theorem dX3_declaration_72 : decode cX3_declaration 72 = .ok (.aload_n 0, 1) := by decide +kernel
theorem dX3_declaration_73 : decode cX3_declaration 73 = .ok (.getfield 19, 3) := by decide +kernel
theorem dX3_declaration_76 : decode cX3_declaration 76 = .ok (.getfield 212, 3) := by decide +kernel
theorem dX3_declaration_79 : decode cX3_declaration 79 = .ok (.iload_n 1, 1) := by decide +kernel
theorem dX3_declaration_80 : decode cX3_declaration 80 = .ok (.iaload, 1) := by decide +kernel
theorem dX3_declaration_81 : decode cX3_declaration 81 = .ok (.ireturn, 1) := by decide +kernel
theorem dX3_declaration_82 : decode cX3_declaration 82 = .ok (.aload_n 0, 1) := by decide +kernel
theorem dX3_declaration_83 : decode cX3_declaration 83 = .ok (.getfield 19, 3) := by decide +kernel
theorem dX3_declaration_86 : decode cX3_declaration 86 = .ok (.iload_n 1, 1) := by decide +kernel
theorem dX3_declaration_87 : decode cX3_declaration 87 = .ok (.invokevirtual 215, 3) := by decide +kernel
theorem dX3_declaration_90 : decode cX3_declaration 90 = .ok (.ireturn, 1) := by decide +kernel
theorem dX3_declaration_91 : decode cX3_declaration 91 = .ok (.aload_n 0, 1) := by decide +kernel
theorem dX3_declaration_92 : decode cX3_declaration 92 = .ok (.getfield 19, 3) := by decide +kernel
theorem dX3_declaration_95 : decode cX3_declaration 95 = .ok (.iload_n 1, 1) := by decide +kernel
theorem dX3_declaration_96 : decode cX3_declaration 96 = .ok (.invokevirtual 218, 3) := by decide +kernel
theorem dX3_declaration_99 : decode cX3_declaration 99 = .ok (.ireturn, 1) := by decide +kernel
theorem dX3_declaration_100 : decode cX3_declaration 100 = .ok (.aload_n 0, 1) := by decide +kernel
theorem dX3_declaration_101 : decode cX3_declaration 101 = .ok (.getfield 19, 3) := by decide +kernel
theorem dX3_declaration_104 : decode cX3_declaration 104 = .ok (.iload_n 1, 1) := by decide +kernel
theorem dX3_declaration_105 : decode cX3_declaration 105 = .ok (.invokevirtual 221, 3) := by decide +kernel
theorem dX3_declaration_108 : decode cX3_declaration 108 = .ok (.ireturn, 1) := by decide +kernel
theorem dX3_imported_0 : decode cX3_imported 0 = .ok (.iload_n 1, 1) := by decide +kernel
theorem dX3_imported_1 : decode cX3_imported 1 = .ok (.aload_n 0, 1) := by decide +kernel
theorem dX3_imported_2 : decode cX3_imported 2 = .ok (.getfield 19, 3) := by decide +kernel
theorem dX3_imported_5 : decode cX3_imported 5 = .ok (.getfield 81, 3) := by decide +kernel
theorem dX3_imported_8 : decode cX3_imported 8 = .ok (.invokestatic 87, 3) := by decide +kernel
theorem dX3_imported_11 : decode cX3_imported 11 = .ok (.iload_n 2, 1) := by decide +kernel
theorem dX3_imported_12 : decode cX3_imported 12 = .ok (.bipush 8, 2) := by decide +kernel
theorem dX3_imported_14 : decode cX3_imported 14 = .ok (.invokestatic 74, 3) := by decide +kernel
theorem dX3_imported_17 : decode cX3_imported 17 = .ok (.iload_n 2, 1) := by decide +kernel
theorem dX3_imported_18 : decode cX3_imported 18 = .ok (.tableswitch 111 0 6 #[42, 52, 62, 72, 82, 92, 102], 42) := by decide +kernel
theorem dX3_imported_60 : decode cX3_imported 60 = .ok (.aload_n 0, 1) := by decide +kernel
theorem dX3_imported_61 : decode cX3_imported 61 = .ok (.getfield 19, 3) := by decide +kernel
theorem dX3_imported_64 : decode cX3_imported 64 = .ok (.getfield 224, 3) := by decide +kernel
theorem dX3_imported_67 : decode cX3_imported 67 = .ok (.iload_n 1, 1) := by decide +kernel
theorem dX3_imported_68 : decode cX3_imported 68 = .ok (.iaload, 1) := by decide +kernel
theorem dX3_imported_69 : decode cX3_imported 69 = .ok (.ireturn, 1) := by decide +kernel
theorem dX3_imported_70 : decode cX3_imported 70 = .ok (.aload_n 0, 1) := by decide +kernel
theorem dX3_imported_71 : decode cX3_imported 71 = .ok (.getfield 19, 3) := by decide +kernel
theorem dX3_imported_74 : decode cX3_imported 74 = .ok (.getfield 227, 3) := by decide +kernel
theorem dX3_imported_77 : decode cX3_imported 77 = .ok (.iload_n 1, 1) := by decide +kernel
theorem dX3_imported_78 : decode cX3_imported 78 = .ok (.iaload, 1) := by decide +kernel
theorem dX3_imported_79 : decode cX3_imported 79 = .ok (.ireturn, 1) := by decide +kernel
theorem dX3_imported_80 : decode cX3_imported 80 = .ok (.aload_n 0, 1) := by decide +kernel
theorem dX3_imported_81 : decode cX3_imported 81 = .ok (.getfield 19, 3) := by decide +kernel
theorem dX3_imported_84 : decode cX3_imported 84 = .ok (.getfield 230, 3) := by decide +kernel
theorem dX3_imported_87 : decode cX3_imported 87 = .ok (.iload_n 1, 1) := by decide +kernel
theorem dX3_imported_88 : decode cX3_imported 88 = .ok (.iaload, 1) := by decide +kernel
theorem dX3_imported_89 : decode cX3_imported 89 = .ok (.ireturn, 1) := by decide +kernel
theorem dX3_imported_90 : decode cX3_imported 90 = .ok (.aload_n 0, 1) := by decide +kernel
theorem dX3_imported_91 : decode cX3_imported 91 = .ok (.getfield 19, 3) := by decide +kernel
theorem dX3_imported_94 : decode cX3_imported 94 = .ok (.getfield 233, 3) := by decide +kernel
theorem dX3_imported_97 : decode cX3_imported 97 = .ok (.iload_n 1, 1) := by decide +kernel
theorem dX3_imported_98 : decode cX3_imported 98 = .ok (.iaload, 1) := by decide +kernel
theorem dX3_imported_99 : decode cX3_imported 99 = .ok (.ireturn, 1) := by decide +kernel
theorem dX3_imported_100 : decode cX3_imported 100 = .ok (.aload_n 0, 1) := by decide +kernel
theorem dX3_imported_101 : decode cX3_imported 101 = .ok (.getfield 19, 3) := by decide +kernel
theorem dX3_imported_104 : decode cX3_imported 104 = .ok (.getfield 236, 3) := by decide +kernel
theorem dX3_imported_107 : decode cX3_imported 107 = .ok (.iload_n 1, 1) := by decide +kernel
theorem dX3_imported_108 : decode cX3_imported 108 = .ok (.iaload, 1) := by decide +kernel
theorem dX3_imported_109 : decode cX3_imported 109 = .ok (.ireturn, 1) := by decide +kernel
theorem dX3_imported_110 : decode cX3_imported 110 = .ok (.aload_n 0, 1) := by decide +kernel
theorem dX3_imported_111 : decode cX3_imported 111 = .ok (.getfield 19, 3) := by decide +kernel
theorem dX3_imported_114 : decode cX3_imported 114 = .ok (.getfield 239, 3) := by decide +kernel
theorem dX3_imported_117 : decode cX3_imported 117 = .ok (.iload_n 1, 1) := by decide +kernel
theorem dX3_imported_118 : decode cX3_imported 118 = .ok (.iaload, 1) := by decide +kernel
theorem dX3_imported_119 : decode cX3_imported 119 = .ok (.ireturn, 1) := by decide +kernel
theorem dX3_imported_120 : decode cX3_imported 120 = .ok (.aload_n 0, 1) := by decide +kernel
theorem dX3_imported_121 : decode cX3_imported 121 = .ok (.getfield 19, 3) := by decide +kernel
theorem dX3_imported_124 : decode cX3_imported 124 = .ok (.iload_n 1, 1) := by decide +kernel
theorem dX3_imported_125 : decode cX3_imported 125 = .ok (.invokevirtual 242, 3) := by decide +kernel
theorem dX3_imported_128 : decode cX3_imported 128 = .ok (.ireturn, 1) := by decide +kernel
theorem dX3_imported_129 : decode cX3_imported 129 = .ok (.aload_n 0, 1) := by decide +kernel
theorem dX3_imported_130 : decode cX3_imported 130 = .ok (.iload_n 1, 1) := by decide +kernel
theorem dX3_imported_131 : decode cX3_imported 131 = .ok (.invokevirtual 245, 3) := by decide +kernel
theorem dX3_imported_134 : decode cX3_imported 134 = .ok (.ireturn, 1) := by decide +kernel
theorem dX3_used_0 : decode cX3_used 0 = .ok (.iload_n 1, 1) := by decide +kernel
theorem dX3_used_1 : decode cX3_used 1 = .ok (.aload_n 0, 1) := by decide +kernel
theorem dX3_used_2 : decode cX3_used 2 = .ok (.getfield 19, 3) := by decide +kernel
theorem dX3_used_5 : decode cX3_used 5 = .ok (.getfield 84, 3) := by decide +kernel
theorem dX3_used_8 : decode cX3_used 8 = .ok (.invokestatic 87, 3) := by decide +kernel
theorem dX3_used_11 : decode cX3_used 11 = .ok (.iload_n 2, 1) := by decide +kernel
theorem dX3_used_12 : decode cX3_used 12 = .ok (.iconst 4, 1) := by decide +kernel
theorem dX3_used_13 : decode cX3_used 13 = .ok (.invokestatic 74, 3) := by decide +kernel
theorem dX3_used_16 : decode cX3_used 16 = .ok (.iload_n 2, 1) := by decide +kernel
theorem dX3_used_17 : decode cX3_used 17 = .ok (.tableswitch 59 0 2 #[27, 37, 47], 27) := by decide +kernel
theorem dX3_used_44 : decode cX3_used 44 = .ok (.aload_n 0, 1) := by decide +kernel
theorem dX3_used_45 : decode cX3_used 45 = .ok (.getfield 19, 3) := by decide +kernel
theorem dX3_used_48 : decode cX3_used 48 = .ok (.getfield 248, 3) := by decide +kernel
theorem dX3_used_51 : decode cX3_used 51 = .ok (.iload_n 1, 1) := by decide +kernel
theorem dX3_used_52 : decode cX3_used 52 = .ok (.iaload, 1) := by decide +kernel
theorem dX3_used_53 : decode cX3_used 53 = .ok (.ireturn, 1) := by decide +kernel
theorem dX3_used_54 : decode cX3_used 54 = .ok (.aload_n 0, 1) := by decide +kernel
theorem dX3_used_55 : decode cX3_used 55 = .ok (.getfield 19, 3) := by decide +kernel
theorem dX3_used_58 : decode cX3_used 58 = .ok (.getfield 251, 3) := by decide +kernel
theorem dX3_used_61 : decode cX3_used 61 = .ok (.iload_n 1, 1) := by decide +kernel
theorem dX3_used_62 : decode cX3_used 62 = .ok (.iaload, 1) := by decide +kernel
theorem dX3_used_63 : decode cX3_used 63 = .ok (.ireturn, 1) := by decide +kernel
theorem dX3_used_64 : decode cX3_used 64 = .ok (.aload_n 0, 1) := by decide +kernel
theorem dX3_used_65 : decode cX3_used 65 = .ok (.getfield 19, 3) := by decide +kernel
theorem dX3_used_68 : decode cX3_used 68 = .ok (.iload_n 1, 1) := by decide +kernel
theorem dX3_used_69 : decode cX3_used 69 = .ok (.invokevirtual 254, 3) := by decide +kernel
theorem dX3_used_72 : decode cX3_used 72 = .ok (.invokestatic 146, 3) := by decide +kernel
theorem dX3_used_75 : decode cX3_used 75 = .ok (.ireturn, 1) := by decide +kernel
theorem dX3_used_76 : decode cX3_used 76 = .ok (.aload_n 0, 1) := by decide +kernel
theorem dX3_used_77 : decode cX3_used 77 = .ok (.getfield 19, 3) := by decide +kernel
theorem dX3_used_80 : decode cX3_used 80 = .ok (.iload_n 1, 1) := by decide +kernel
theorem dX3_used_81 : decode cX3_used 81 = .ok (.invokevirtual 257, 3) := by decide +kernel
theorem dX3_used_84 : decode cX3_used 84 = .ok (.ireturn, 1) := by decide +kernel
theorem dX3_parent_0 : decode cX3_parent 0 = .ok (.iload_n 1, 1) := by decide +kernel
theorem dX3_parent_1 : decode cX3_parent 1 = .ok (.aload_n 0, 1) := by decide +kernel
theorem dX3_parent_2 : decode cX3_parent 2 = .ok (.getfield 19, 3) := by decide +kernel
theorem dX3_parent_5 : decode cX3_parent 5 = .ok (.getfield 26, 3) := by decide +kernel
theorem dX3_parent_8 : decode cX3_parent 8 = .ok (.invokestatic 87, 3) := by decide +kernel
theorem dX3_parent_11 : decode cX3_parent 11 = .ok (.aload_n 0, 1) := by decide +kernel
theorem dX3_parent_12 : decode cX3_parent 12 = .ok (.getfield 19, 3) := by decide +kernel
theorem dX3_parent_15 : decode cX3_parent 15 = .ok (.getfield 260, 3) := by decide +kernel
theorem dX3_parent_18 : decode cX3_parent 18 = .ok (.iload_n 1, 1) := by decide +kernel
theorem dX3_parent_19 : decode cX3_parent 19 = .ok (.iaload, 1) := by decide +kernel
theorem dX3_parent_20 : decode cX3_parent 20 = .ok (.ireturn, 1) := by decide +kernel
theorem dX3_resolvedShare_0 : decode cX3_resolvedShare 0 = .ok (.aload_n 0, 1) := by decide +kernel
theorem dX3_resolvedShare_1 : decode cX3_resolvedShare 1 = .ok (.getfield 19, 3) := by decide +kernel
theorem dX3_resolvedShare_4 : decode cX3_resolvedShare 4 = .ok (.getfield 84, 3) := by decide +kernel
theorem dX3_resolvedShare_7 : decode cX3_resolvedShare 7 = .ok (.ifCond .ne 7, 3) := by decide +kernel
theorem dX3_resolvedShare_10 : decode cX3_resolvedShare 10 = .ok (.dconst 1, 1) := by decide +kernel
theorem dX3_resolvedShare_11 : decode cX3_resolvedShare 11 = .ok (.goto 21, 3) := by decide +kernel
theorem dX3_resolvedShare_14 : decode cX3_resolvedShare 14 = .ok (.aload_n 0, 1) := by decide +kernel
theorem dX3_resolvedShare_15 : decode cX3_resolvedShare 15 = .ok (.getfield 19, 3) := by decide +kernel
theorem dX3_resolvedShare_18 : decode cX3_resolvedShare 18 = .ok (.iconst 0, 1) := by decide +kernel
theorem dX3_resolvedShare_19 : decode cX3_resolvedShare 19 = .ok (.invokevirtual 188, 3) := by decide +kernel
theorem dX3_resolvedShare_22 : decode cX3_resolvedShare 22 = .ok (.i2d, 1) := by decide +kernel
theorem dX3_resolvedShare_23 : decode cX3_resolvedShare 23 = .ok (.aload_n 0, 1) := by decide +kernel
theorem dX3_resolvedShare_24 : decode cX3_resolvedShare 24 = .ok (.getfield 19, 3) := by decide +kernel
theorem dX3_resolvedShare_27 : decode cX3_resolvedShare 27 = .ok (.getfield 84, 3) := by decide +kernel
theorem dX3_resolvedShare_30 : decode cX3_resolvedShare 30 = .ok (.i2d, 1) := by decide +kernel
theorem dX3_resolvedShare_31 : decode cX3_resolvedShare 31 = .ok (.ddiv, 1) := by decide +kernel
theorem dX3_resolvedShare_32 : decode cX3_resolvedShare 32 = .ok (.dreturn, 1) := by decide +kernel
theorem dX3_digest_0 : decode cX3_digest 0 = .ok (.ldc2_w 263, 3) := by decide +kernel
theorem dX3_digest_3 : decode cX3_digest 3 = .ok (.lstore_n 1, 1) := by decide +kernel
theorem dX3_digest_4 : decode cX3_digest 4 = .ok (.iconst 0, 1) := by decide +kernel
theorem dX3_digest_5 : decode cX3_digest 5 = .ok (.istore_n 3, 1) := by decide +kernel
theorem dX3_digest_6 : decode cX3_digest 6 = .ok (.iload_n 3, 1) := by decide +kernel
theorem dX3_digest_7 : decode cX3_digest 7 = .ok (.bipush 10, 2) := by decide +kernel
theorem dX3_digest_9 : decode cX3_digest 9 = .ok (.if_icmp .gt 22, 3) := by decide +kernel
theorem dX3_digest_12 : decode cX3_digest 12 = .ok (.ldc2_w 265, 3) := by decide +kernel
theorem dX3_digest_15 : decode cX3_digest 15 = .ok (.lload_n 1, 1) := by decide +kernel
theorem dX3_digest_16 : decode cX3_digest 16 = .ok (.lmul, 1) := by decide +kernel
theorem dX3_digest_17 : decode cX3_digest 17 = .ok (.aload_n 0, 1) := by decide +kernel
theorem dX3_digest_18 : decode cX3_digest 18 = .ok (.iload_n 3, 1) := by decide +kernel
theorem dX3_digest_19 : decode cX3_digest 19 = .ok (.invokevirtual 267, 3) := by decide +kernel
theorem dX3_digest_22 : decode cX3_digest 22 = .ok (.i2l, 1) := by decide +kernel
theorem dX3_digest_23 : decode cX3_digest 23 = .ok (.ladd, 1) := by decide +kernel
theorem dX3_digest_24 : decode cX3_digest 24 = .ok (.lstore_n 1, 1) := by decide +kernel
theorem dX3_digest_25 : decode cX3_digest 25 = .ok (.iinc 3 1, 3) := by decide +kernel
theorem dX3_digest_28 : decode cX3_digest 28 = .ok (.goto (-22), 3) := by decide +kernel
theorem dX3_digest_31 : decode cX3_digest 31 = .ok (.iconst 0, 1) := by decide +kernel
theorem dX3_digest_32 : decode cX3_digest 32 = .ok (.istore_n 3, 1) := by decide +kernel
theorem dX3_digest_33 : decode cX3_digest 33 = .ok (.iload_n 3, 1) := by decide +kernel
theorem dX3_digest_34 : decode cX3_digest 34 = .ok (.aload_n 0, 1) := by decide +kernel
theorem dX3_digest_35 : decode cX3_digest 35 = .ok (.getfield 19, 3) := by decide +kernel
theorem dX3_digest_38 : decode cX3_digest 38 = .ok (.getfield 26, 3) := by decide +kernel
theorem dX3_digest_41 : decode cX3_digest 41 = .ok (.if_icmp .ge 50, 3) := by decide +kernel
theorem dX3_digest_44 : decode cX3_digest 44 = .ok (.ldc2_w 265, 3) := by decide +kernel
theorem dX3_digest_47 : decode cX3_digest 47 = .ok (.lload_n 1, 1) := by decide +kernel
theorem dX3_digest_48 : decode cX3_digest 48 = .ok (.lmul, 1) := by decide +kernel
theorem dX3_digest_49 : decode cX3_digest 49 = .ok (.aload_n 0, 1) := by decide +kernel
theorem dX3_digest_50 : decode cX3_digest 50 = .ok (.iload_n 3, 1) := by decide +kernel
theorem dX3_digest_51 : decode cX3_digest 51 = .ok (.invokevirtual 270, 3) := by decide +kernel
theorem dX3_digest_54 : decode cX3_digest 54 = .ok (.i2l, 1) := by decide +kernel
theorem dX3_digest_55 : decode cX3_digest 55 = .ok (.ladd, 1) := by decide +kernel
theorem dX3_digest_56 : decode cX3_digest 56 = .ok (.lstore_n 1, 1) := by decide +kernel
theorem dX3_digest_57 : decode cX3_digest 57 = .ok (.ldc2_w 265, 3) := by decide +kernel
theorem dX3_digest_60 : decode cX3_digest 60 = .ok (.lload_n 1, 1) := by decide +kernel
theorem dX3_digest_61 : decode cX3_digest 61 = .ok (.lmul, 1) := by decide +kernel
theorem dX3_digest_62 : decode cX3_digest 62 = .ok (.aload_n 0, 1) := by decide +kernel
theorem dX3_digest_63 : decode cX3_digest 63 = .ok (.iload_n 3, 1) := by decide +kernel
theorem dX3_digest_64 : decode cX3_digest 64 = .ok (.iconst 0, 1) := by decide +kernel
theorem dX3_digest_65 : decode cX3_digest 65 = .ok (.invokevirtual 273, 3) := by decide +kernel
theorem dX3_digest_68 : decode cX3_digest 68 = .ok (.i2l, 1) := by decide +kernel
theorem dX3_digest_69 : decode cX3_digest 69 = .ok (.ladd, 1) := by decide +kernel
theorem dX3_digest_70 : decode cX3_digest 70 = .ok (.lstore_n 1, 1) := by decide +kernel
theorem dX3_digest_71 : decode cX3_digest 71 = .ok (.ldc2_w 265, 3) := by decide +kernel
theorem dX3_digest_74 : decode cX3_digest 74 = .ok (.lload_n 1, 1) := by decide +kernel
theorem dX3_digest_75 : decode cX3_digest 75 = .ok (.lmul, 1) := by decide +kernel
theorem dX3_digest_76 : decode cX3_digest 76 = .ok (.aload_n 0, 1) := by decide +kernel
theorem dX3_digest_77 : decode cX3_digest 77 = .ok (.iload_n 3, 1) := by decide +kernel
theorem dX3_digest_78 : decode cX3_digest 78 = .ok (.iconst 1, 1) := by decide +kernel
theorem dX3_digest_79 : decode cX3_digest 79 = .ok (.invokevirtual 273, 3) := by decide +kernel
theorem dX3_digest_82 : decode cX3_digest 82 = .ok (.i2l, 1) := by decide +kernel
theorem dX3_digest_83 : decode cX3_digest 83 = .ok (.ladd, 1) := by decide +kernel
theorem dX3_digest_84 : decode cX3_digest 84 = .ok (.lstore_n 1, 1) := by decide +kernel
theorem dX3_digest_85 : decode cX3_digest 85 = .ok (.iinc 3 1, 3) := by decide +kernel
theorem dX3_digest_88 : decode cX3_digest 88 = .ok (.goto (-55), 3) := by decide +kernel
theorem dX3_digest_91 : decode cX3_digest 91 = .ok (.iconst 0, 1) := by decide +kernel
theorem dX3_digest_92 : decode cX3_digest 92 = .ok (.istore_n 3, 1) := by decide +kernel
theorem dX3_digest_93 : decode cX3_digest 93 = .ok (.iload_n 3, 1) := by decide +kernel
theorem dX3_digest_94 : decode cX3_digest 94 = .ok (.aload_n 0, 1) := by decide +kernel
theorem dX3_digest_95 : decode cX3_digest 95 = .ok (.getfield 19, 3) := by decide +kernel
theorem dX3_digest_98 : decode cX3_digest 98 = .ok (.getfield 78, 3) := by decide +kernel
theorem dX3_digest_101 : decode cX3_digest 101 = .ok (.if_icmp .ge 39, 3) := by decide +kernel
theorem dX3_digest_104 : decode cX3_digest 104 = .ok (.iconst 0, 1) := by decide +kernel
theorem dX3_digest_105 : decode cX3_digest 105 = .ok (.istore 4, 2) := by decide +kernel
theorem dX3_digest_107 : decode cX3_digest 107 = .ok (.iload 4, 2) := by decide +kernel
theorem dX3_digest_109 : decode cX3_digest 109 = .ok (.iconst 5, 1) := by decide +kernel
theorem dX3_digest_110 : decode cX3_digest 110 = .ok (.if_icmp .gt 24, 3) := by decide +kernel
theorem dX3_digest_113 : decode cX3_digest 113 = .ok (.ldc2_w 265, 3) := by decide +kernel
theorem dX3_digest_116 : decode cX3_digest 116 = .ok (.lload_n 1, 1) := by decide +kernel
theorem dX3_digest_117 : decode cX3_digest 117 = .ok (.lmul, 1) := by decide +kernel
theorem dX3_digest_118 : decode cX3_digest 118 = .ok (.aload_n 0, 1) := by decide +kernel
theorem dX3_digest_119 : decode cX3_digest 119 = .ok (.iload_n 3, 1) := by decide +kernel
theorem dX3_digest_120 : decode cX3_digest 120 = .ok (.iload 4, 2) := by decide +kernel
theorem dX3_digest_122 : decode cX3_digest 122 = .ok (.invokevirtual 276, 3) := by decide +kernel
theorem dX3_digest_125 : decode cX3_digest 125 = .ok (.i2l, 1) := by decide +kernel
theorem dX3_digest_126 : decode cX3_digest 126 = .ok (.ladd, 1) := by decide +kernel
theorem dX3_digest_127 : decode cX3_digest 127 = .ok (.lstore_n 1, 1) := by decide +kernel
theorem dX3_digest_128 : decode cX3_digest 128 = .ok (.iinc 4 1, 3) := by decide +kernel
theorem dX3_digest_131 : decode cX3_digest 131 = .ok (.goto (-24), 3) := by decide +kernel
theorem dX3_digest_134 : decode cX3_digest 134 = .ok (.iinc 3 1, 3) := by decide +kernel
theorem dX3_digest_137 : decode cX3_digest 137 = .ok (.goto (-44), 3) := by decide +kernel
theorem dX3_digest_140 : decode cX3_digest 140 = .ok (.iconst 0, 1) := by decide +kernel
theorem dX3_digest_141 : decode cX3_digest 141 = .ok (.istore_n 3, 1) := by decide +kernel
theorem dX3_digest_142 : decode cX3_digest 142 = .ok (.iload_n 3, 1) := by decide +kernel
theorem dX3_digest_143 : decode cX3_digest 143 = .ok (.aload_n 0, 1) := by decide +kernel
theorem dX3_digest_144 : decode cX3_digest 144 = .ok (.getfield 19, 3) := by decide +kernel
theorem dX3_digest_147 : decode cX3_digest 147 = .ok (.getfield 81, 3) := by decide +kernel
theorem dX3_digest_150 : decode cX3_digest 150 = .ok (.if_icmp .ge 40, 3) := by decide +kernel
theorem dX3_digest_153 : decode cX3_digest 153 = .ok (.iconst 0, 1) := by decide +kernel
theorem dX3_digest_154 : decode cX3_digest 154 = .ok (.istore 4, 2) := by decide +kernel
theorem dX3_digest_156 : decode cX3_digest 156 = .ok (.iload 4, 2) := by decide +kernel
theorem dX3_digest_158 : decode cX3_digest 158 = .ok (.bipush 7, 2) := by decide +kernel
theorem dX3_digest_160 : decode cX3_digest 160 = .ok (.if_icmp .gt 24, 3) := by decide +kernel
theorem dX3_digest_163 : decode cX3_digest 163 = .ok (.ldc2_w 265, 3) := by decide +kernel
theorem dX3_digest_166 : decode cX3_digest 166 = .ok (.lload_n 1, 1) := by decide +kernel
theorem dX3_digest_167 : decode cX3_digest 167 = .ok (.lmul, 1) := by decide +kernel
theorem dX3_digest_168 : decode cX3_digest 168 = .ok (.aload_n 0, 1) := by decide +kernel
theorem dX3_digest_169 : decode cX3_digest 169 = .ok (.iload_n 3, 1) := by decide +kernel
theorem dX3_digest_170 : decode cX3_digest 170 = .ok (.iload 4, 2) := by decide +kernel
theorem dX3_digest_172 : decode cX3_digest 172 = .ok (.invokevirtual 279, 3) := by decide +kernel
theorem dX3_digest_175 : decode cX3_digest 175 = .ok (.i2l, 1) := by decide +kernel
theorem dX3_digest_176 : decode cX3_digest 176 = .ok (.ladd, 1) := by decide +kernel
theorem dX3_digest_177 : decode cX3_digest 177 = .ok (.lstore_n 1, 1) := by decide +kernel
theorem dX3_digest_178 : decode cX3_digest 178 = .ok (.iinc 4 1, 3) := by decide +kernel
theorem dX3_digest_181 : decode cX3_digest 181 = .ok (.goto (-25), 3) := by decide +kernel
theorem dX3_digest_184 : decode cX3_digest 184 = .ok (.iinc 3 1, 3) := by decide +kernel
theorem dX3_digest_187 : decode cX3_digest 187 = .ok (.goto (-45), 3) := by decide +kernel
theorem dX3_digest_190 : decode cX3_digest 190 = .ok (.iconst 0, 1) := by decide +kernel
theorem dX3_digest_191 : decode cX3_digest 191 = .ok (.istore_n 3, 1) := by decide +kernel
theorem dX3_digest_192 : decode cX3_digest 192 = .ok (.iload_n 3, 1) := by decide +kernel
theorem dX3_digest_193 : decode cX3_digest 193 = .ok (.aload_n 0, 1) := by decide +kernel
theorem dX3_digest_194 : decode cX3_digest 194 = .ok (.getfield 19, 3) := by decide +kernel
theorem dX3_digest_197 : decode cX3_digest 197 = .ok (.getfield 84, 3) := by decide +kernel
theorem dX3_digest_200 : decode cX3_digest 200 = .ok (.if_icmp .ge 39, 3) := by decide +kernel
theorem dX3_digest_203 : decode cX3_digest 203 = .ok (.iconst 0, 1) := by decide +kernel
theorem dX3_digest_204 : decode cX3_digest 204 = .ok (.istore 4, 2) := by decide +kernel
theorem dX3_digest_206 : decode cX3_digest 206 = .ok (.iload 4, 2) := by decide +kernel
theorem dX3_digest_208 : decode cX3_digest 208 = .ok (.iconst 3, 1) := by decide +kernel
theorem dX3_digest_209 : decode cX3_digest 209 = .ok (.if_icmp .gt 24, 3) := by decide +kernel
theorem dX3_digest_212 : decode cX3_digest 212 = .ok (.ldc2_w 265, 3) := by decide +kernel
theorem dX3_digest_215 : decode cX3_digest 215 = .ok (.lload_n 1, 1) := by decide +kernel
theorem dX3_digest_216 : decode cX3_digest 216 = .ok (.lmul, 1) := by decide +kernel
theorem dX3_digest_217 : decode cX3_digest 217 = .ok (.aload_n 0, 1) := by decide +kernel
theorem dX3_digest_218 : decode cX3_digest 218 = .ok (.iload_n 3, 1) := by decide +kernel
theorem dX3_digest_219 : decode cX3_digest 219 = .ok (.iload 4, 2) := by decide +kernel
theorem dX3_digest_221 : decode cX3_digest 221 = .ok (.invokevirtual 282, 3) := by decide +kernel
theorem dX3_digest_224 : decode cX3_digest 224 = .ok (.i2l, 1) := by decide +kernel
theorem dX3_digest_225 : decode cX3_digest 225 = .ok (.ladd, 1) := by decide +kernel
theorem dX3_digest_226 : decode cX3_digest 226 = .ok (.lstore_n 1, 1) := by decide +kernel
theorem dX3_digest_227 : decode cX3_digest 227 = .ok (.iinc 4 1, 3) := by decide +kernel
theorem dX3_digest_230 : decode cX3_digest 230 = .ok (.goto (-24), 3) := by decide +kernel
theorem dX3_digest_233 : decode cX3_digest 233 = .ok (.iinc 3 1, 3) := by decide +kernel
theorem dX3_digest_236 : decode cX3_digest 236 = .ok (.goto (-44), 3) := by decide +kernel
theorem dX3_digest_239 : decode cX3_digest 239 = .ok (.ldc2_w 265, 3) := by decide +kernel
theorem dX3_digest_242 : decode cX3_digest 242 = .ok (.lload_n 1, 1) := by decide +kernel
theorem dX3_digest_243 : decode cX3_digest 243 = .ok (.lmul, 1) := by decide +kernel
theorem dX3_digest_244 : decode cX3_digest 244 = .ok (.aload_n 0, 1) := by decide +kernel
theorem dX3_digest_245 : decode cX3_digest 245 = .ok (.getfield 12, 3) := by decide +kernel
theorem dX3_digest_248 : decode cX3_digest 248 = .ok (.getfield 106, 3) := by decide +kernel
theorem dX3_digest_251 : decode cX3_digest 251 = .ok (.i2l, 1) := by decide +kernel
theorem dX3_digest_252 : decode cX3_digest 252 = .ok (.ladd, 1) := by decide +kernel
theorem dX3_digest_253 : decode cX3_digest 253 = .ok (.lstore_n 1, 1) := by decide +kernel
theorem dX3_digest_254 : decode cX3_digest 254 = .ok (.iconst 0, 1) := by decide +kernel
theorem dX3_digest_255 : decode cX3_digest 255 = .ok (.istore_n 3, 1) := by decide +kernel
theorem dX3_digest_256 : decode cX3_digest 256 = .ok (.iload_n 3, 1) := by decide +kernel
theorem dX3_digest_257 : decode cX3_digest 257 = .ok (.aload_n 0, 1) := by decide +kernel
theorem dX3_digest_258 : decode cX3_digest 258 = .ok (.getfield 12, 3) := by decide +kernel
theorem dX3_digest_261 : decode cX3_digest 261 = .ok (.getfield 106, 3) := by decide +kernel
theorem dX3_digest_264 : decode cX3_digest 264 = .ok (.if_icmp .ge 25, 3) := by decide +kernel
theorem dX3_digest_267 : decode cX3_digest 267 = .ok (.ldc2_w 265, 3) := by decide +kernel
theorem dX3_digest_270 : decode cX3_digest 270 = .ok (.lload_n 1, 1) := by decide +kernel
theorem dX3_digest_271 : decode cX3_digest 271 = .ok (.lmul, 1) := by decide +kernel
theorem dX3_digest_272 : decode cX3_digest 272 = .ok (.aload_n 0, 1) := by decide +kernel
theorem dX3_digest_273 : decode cX3_digest 273 = .ok (.getfield 12, 3) := by decide +kernel
theorem dX3_digest_276 : decode cX3_digest 276 = .ok (.iload_n 3, 1) := by decide +kernel
theorem dX3_digest_277 : decode cX3_digest 277 = .ok (.invokevirtual 285, 3) := by decide +kernel
theorem dX3_digest_280 : decode cX3_digest 280 = .ok (.i2l, 1) := by decide +kernel
theorem dX3_digest_281 : decode cX3_digest 281 = .ok (.ladd, 1) := by decide +kernel
theorem dX3_digest_282 : decode cX3_digest 282 = .ok (.lstore_n 1, 1) := by decide +kernel
theorem dX3_digest_283 : decode cX3_digest 283 = .ok (.iinc 3 1, 3) := by decide +kernel
theorem dX3_digest_286 : decode cX3_digest 286 = .ok (.goto (-30), 3) := by decide +kernel
theorem dX3_digest_289 : decode cX3_digest 289 = .ok (.lload_n 1, 1) := by decide +kernel
theorem dX3_digest_290 : decode cX3_digest 290 = .ok (.lreturn, 1) := by decide +kernel
theorem dX3_isName_0 : decode cX3_isName 0 = .ok (.iload_n 0, 1) := by decide +kernel
theorem dX3_isName_1 : decode cX3_isName 1 = .ok (.ifCond .lt 13, 3) := by decide +kernel
theorem dX3_isName_4 : decode cX3_isName 4 = .ok (.iload_n 0, 1) := by decide +kernel
theorem dX3_isName_5 : decode cX3_isName 5 = .ok (.bipush 26, 2) := by decide +kernel
theorem dX3_isName_7 : decode cX3_isName 7 = .ok (.if_icmp .ge 7, 3) := by decide +kernel
theorem dX3_isName_10 : decode cX3_isName 10 = .ok (.iconst 1, 1) := by decide +kernel
theorem dX3_isName_11 : decode cX3_isName 11 = .ok (.goto 4, 3) := by decide +kernel
theorem dX3_isName_14 : decode cX3_isName 14 = .ok (.iconst 0, 1) := by decide +kernel
theorem dX3_isName_15 : decode cX3_isName 15 = .ok (.ireturn, 1) := by decide +kernel
theorem dX3_needIndex_0 : decode cX3_needIndex 0 = .ok (.iload_n 0, 1) := by decide +kernel
theorem dX3_needIndex_1 : decode cX3_needIndex 1 = .ok (.ifCond .lt 8, 3) := by decide +kernel
theorem dX3_needIndex_4 : decode cX3_needIndex 4 = .ok (.iload_n 0, 1) := by decide +kernel
theorem dX3_needIndex_5 : decode cX3_needIndex 5 = .ok (.iload_n 1, 1) := by decide +kernel
theorem dX3_needIndex_6 : decode cX3_needIndex 6 = .ok (.if_icmp .lt 14, 3) := by decide +kernel
theorem dX3_needIndex_9 : decode cX3_needIndex 9 = .ok (.new 288, 3) := by decide +kernel
theorem dX3_needIndex_12 : decode cX3_needIndex 12 = .ok (.dup, 1) := by decide +kernel
theorem dX3_needIndex_13 : decode cX3_needIndex 13 = .ok (.ldc_w 290, 3) := by decide +kernel
theorem dX3_needIndex_16 : decode cX3_needIndex 16 = .ok (.invokespecial 292, 3) := by decide +kernel
theorem dX3_needIndex_19 : decode cX3_needIndex 19 = .ok (.athrow, 1) := by decide +kernel
theorem dX3_needIndex_20 : decode cX3_needIndex 20 = .ok (.return_, 1) := by decide +kernel
theorem dX3_needBelow_0 : decode cX3_needBelow 0 = .ok (.iload_n 0, 1) := by decide +kernel
theorem dX3_needBelow_1 : decode cX3_needBelow 1 = .ok (.ifCond .lt 8, 3) := by decide +kernel
theorem dX3_needBelow_4 : decode cX3_needBelow 4 = .ok (.iload_n 0, 1) := by decide +kernel
theorem dX3_needBelow_5 : decode cX3_needBelow 5 = .ok (.iload_n 1, 1) := by decide +kernel
theorem dX3_needBelow_6 : decode cX3_needBelow 6 = .ok (.if_icmp .lt 14, 3) := by decide +kernel
theorem dX3_needBelow_9 : decode cX3_needBelow 9 = .ok (.new 99, 3) := by decide +kernel
theorem dX3_needBelow_12 : decode cX3_needBelow 12 = .ok (.dup, 1) := by decide +kernel
theorem dX3_needBelow_13 : decode cX3_needBelow 13 = .ok (.ldc_w 293, 3) := by decide +kernel
theorem dX3_needBelow_16 : decode cX3_needBelow 16 = .ok (.invokespecial 103, 3) := by decide +kernel
theorem dX3_needBelow_19 : decode cX3_needBelow 19 = .ok (.athrow, 1) := by decide +kernel
theorem dX3_needBelow_20 : decode cX3_needBelow 20 = .ok (.return_, 1) := by decide +kernel
theorem dX3_throwIfRefused_0 : decode cX3_throwIfRefused 0 = .ok (.iload_n 0, 1) := by decide +kernel
theorem dX3_throwIfRefused_1 : decode cX3_throwIfRefused 1 = .ok (.iconst 1, 1) := by decide +kernel
theorem dX3_throwIfRefused_2 : decode cX3_throwIfRefused 2 = .ok (.if_icmp .ne 14, 3) := by decide +kernel
theorem dX3_throwIfRefused_5 : decode cX3_throwIfRefused 5 = .ok (.new 288, 3) := by decide +kernel
theorem dX3_throwIfRefused_8 : decode cX3_throwIfRefused 8 = .ok (.dup, 1) := by decide +kernel
theorem dX3_throwIfRefused_9 : decode cX3_throwIfRefused 9 = .ok (.ldc_w 295, 3) := by decide +kernel
theorem dX3_throwIfRefused_12 : decode cX3_throwIfRefused 12 = .ok (.invokespecial 292, 3) := by decide +kernel
theorem dX3_throwIfRefused_15 : decode cX3_throwIfRefused 15 = .ok (.athrow, 1) := by decide +kernel
theorem dX3_throwIfRefused_16 : decode cX3_throwIfRefused 16 = .ok (.iload_n 0, 1) := by decide +kernel
theorem dX3_throwIfRefused_17 : decode cX3_throwIfRefused 17 = .ok (.iconst 2, 1) := by decide +kernel
theorem dX3_throwIfRefused_18 : decode cX3_throwIfRefused 18 = .ok (.if_icmp .ne 14, 3) := by decide +kernel
theorem dX3_throwIfRefused_21 : decode cX3_throwIfRefused 21 = .ok (.new 99, 3) := by decide +kernel
theorem dX3_throwIfRefused_24 : decode cX3_throwIfRefused 24 = .ok (.dup, 1) := by decide +kernel
theorem dX3_throwIfRefused_25 : decode cX3_throwIfRefused 25 = .ok (.ldc_w 297, 3) := by decide +kernel
theorem dX3_throwIfRefused_28 : decode cX3_throwIfRefused 28 = .ok (.invokespecial 103, 3) := by decide +kernel
theorem dX3_throwIfRefused_31 : decode cX3_throwIfRefused 31 = .ok (.athrow, 1) := by decide +kernel
theorem dX3_throwIfRefused_32 : decode cX3_throwIfRefused 32 = .ok (.iload_n 0, 1) := by decide +kernel
theorem dX3_throwIfRefused_33 : decode cX3_throwIfRefused 33 = .ok (.iconst 3, 1) := by decide +kernel
theorem dX3_throwIfRefused_34 : decode cX3_throwIfRefused 34 = .ok (.if_icmp .ne 14, 3) := by decide +kernel
theorem dX3_throwIfRefused_37 : decode cX3_throwIfRefused 37 = .ok (.new 109, 3) := by decide +kernel
theorem dX3_throwIfRefused_40 : decode cX3_throwIfRefused 40 = .ok (.dup, 1) := by decide +kernel
theorem dX3_throwIfRefused_41 : decode cX3_throwIfRefused 41 = .ok (.ldc_w 299, 3) := by decide +kernel
theorem dX3_throwIfRefused_44 : decode cX3_throwIfRefused 44 = .ok (.invokespecial 113, 3) := by decide +kernel
theorem dX3_throwIfRefused_47 : decode cX3_throwIfRefused 47 = .ok (.athrow, 1) := by decide +kernel
theorem dX3_throwIfRefused_48 : decode cX3_throwIfRefused 48 = .ok (.return_, 1) := by decide +kernel
theorem dX3_onlyOne_0 : decode cX3_onlyOne 0 = .ok (.iload_n 0, 1) := by decide +kernel
theorem dX3_onlyOne_1 : decode cX3_onlyOne 1 = .ok (.invokestatic 149, 3) := by decide +kernel
theorem dX3_onlyOne_4 : decode cX3_onlyOne 4 = .ok (.iconst 1, 1) := by decide +kernel
theorem dX3_onlyOne_5 : decode cX3_onlyOne 5 = .ok (.if_icmp .ne 12, 3) := by decide +kernel
theorem dX3_onlyOne_8 : decode cX3_onlyOne 8 = .ok (.iload_n 0, 1) := by decide +kernel
theorem dX3_onlyOne_9 : decode cX3_onlyOne 9 = .ok (.iconst 1, 1) := by decide +kernel
theorem dX3_onlyOne_10 : decode cX3_onlyOne 10 = .ok (.isub, 1) := by decide +kernel
theorem dX3_onlyOne_11 : decode cX3_onlyOne 11 = .ok (.invokestatic 149, 3) := by decide +kernel
theorem dX3_onlyOne_14 : decode cX3_onlyOne 14 = .ok (.goto 4, 3) := by decide +kernel
theorem dX3_onlyOne_17 : decode cX3_onlyOne 17 = .ok (.iconst (-1), 1) := by decide +kernel
theorem dX3_onlyOne_18 : decode cX3_onlyOne 18 = .ok (.ireturn, 1) := by decide +kernel
theorem dX3_nthOf_0 : decode cX3_nthOf 0 = .ok (.iconst 0, 1) := by decide +kernel
theorem dX3_nthOf_1 : decode cX3_nthOf 1 = .ok (.istore_n 2, 1) := by decide +kernel
theorem dX3_nthOf_2 : decode cX3_nthOf 2 = .ok (.iconst 0, 1) := by decide +kernel
theorem dX3_nthOf_3 : decode cX3_nthOf 3 = .ok (.istore_n 3, 1) := by decide +kernel
theorem dX3_nthOf_4 : decode cX3_nthOf 4 = .ok (.iload_n 3, 1) := by decide +kernel
theorem dX3_nthOf_5 : decode cX3_nthOf 5 = .ok (.bipush 30, 2) := by decide +kernel
theorem dX3_nthOf_7 : decode cX3_nthOf 7 = .ok (.if_icmp .ge 27, 3) := by decide +kernel
theorem dX3_nthOf_10 : decode cX3_nthOf 10 = .ok (.iload_n 0, 1) := by decide +kernel
theorem dX3_nthOf_11 : decode cX3_nthOf 11 = .ok (.iload_n 3, 1) := by decide +kernel
theorem dX3_nthOf_12 : decode cX3_nthOf 12 = .ok (.ishr, 1) := by decide +kernel
theorem dX3_nthOf_13 : decode cX3_nthOf 13 = .ok (.iconst 1, 1) := by decide +kernel
theorem dX3_nthOf_14 : decode cX3_nthOf 14 = .ok (.iand, 1) := by decide +kernel
theorem dX3_nthOf_15 : decode cX3_nthOf 15 = .ok (.ifCond .eq 13, 3) := by decide +kernel
theorem dX3_nthOf_18 : decode cX3_nthOf 18 = .ok (.iload_n 2, 1) := by decide +kernel
theorem dX3_nthOf_19 : decode cX3_nthOf 19 = .ok (.iload_n 1, 1) := by decide +kernel
theorem dX3_nthOf_20 : decode cX3_nthOf 20 = .ok (.if_icmp .ne 5, 3) := by decide +kernel
theorem dX3_nthOf_23 : decode cX3_nthOf 23 = .ok (.iload_n 3, 1) := by decide +kernel
theorem dX3_nthOf_24 : decode cX3_nthOf 24 = .ok (.ireturn, 1) := by decide +kernel
theorem dX3_nthOf_25 : decode cX3_nthOf 25 = .ok (.iinc 2 1, 3) := by decide +kernel
theorem dX3_nthOf_28 : decode cX3_nthOf 28 = .ok (.iinc 3 1, 3) := by decide +kernel
theorem dX3_nthOf_31 : decode cX3_nthOf 31 = .ok (.goto (-27), 3) := by decide +kernel
theorem dX3_nthOf_34 : decode cX3_nthOf 34 = .ok (.iconst (-1), 1) := by decide +kernel
theorem dX3_nthOf_35 : decode cX3_nthOf 35 = .ok (.ireturn, 1) := by decide +kernel
theorem dX3_exchange_0 : decode cX3_exchange 0 = .ok (.aload_n 0, 1) := by decide +kernel
theorem dX3_exchange_1 : decode cX3_exchange 1 = .ok (.getfield 19, 3) := by decide +kernel
theorem dX3_exchange_4 : decode cX3_exchange 4 = .ok (.astore_n 1, 1) := by decide +kernel
theorem dX3_exchange_5 : decode cX3_exchange 5 = .ok (.aload_n 0, 1) := by decide +kernel
theorem dX3_exchange_6 : decode cX3_exchange 6 = .ok (.aload_n 0, 1) := by decide +kernel
theorem dX3_exchange_7 : decode cX3_exchange 7 = .ok (.getfield 23, 3) := by decide +kernel
theorem dX3_exchange_10 : decode cX3_exchange 10 = .ok (.putfield 19, 3) := by decide +kernel
theorem dX3_exchange_13 : decode cX3_exchange 13 = .ok (.aload_n 0, 1) := by decide +kernel
theorem dX3_exchange_14 : decode cX3_exchange 14 = .ok (.aload_n 1, 1) := by decide +kernel
theorem dX3_exchange_15 : decode cX3_exchange 15 = .ok (.putfield 23, 3) := by decide +kernel
theorem dX3_exchange_18 : decode cX3_exchange 18 = .ok (.return_, 1) := by decide +kernel
theorem dX3_lossWithout_0 : decode cX3_lossWithout 0 = .ok (.aload_n 0, 1) := by decide +kernel
theorem dX3_lossWithout_1 : decode cX3_lossWithout 1 = .ok (.getfield 19, 3) := by decide +kernel
theorem dX3_lossWithout_4 : decode cX3_lossWithout 4 = .ok (.getfield 301, 3) := by decide +kernel
theorem dX3_lossWithout_7 : decode cX3_lossWithout 7 = .ok (.iload_n 1, 1) := by decide +kernel
theorem dX3_lossWithout_8 : decode cX3_lossWithout 8 = .ok (.iaload, 1) := by decide +kernel
theorem dX3_lossWithout_9 : decode cX3_lossWithout 9 = .ok (.iconst (-1), 1) := by decide +kernel
theorem dX3_lossWithout_10 : decode cX3_lossWithout 10 = .ok (.if_icmp .ne 108, 3) := by decide +kernel
theorem dX3_lossWithout_13 : decode cX3_lossWithout 13 = .ok (.iconst 0, 1) := by decide +kernel
theorem dX3_lossWithout_14 : decode cX3_lossWithout 14 = .ok (.istore_n 2, 1) := by decide +kernel
theorem dX3_lossWithout_15 : decode cX3_lossWithout 15 = .ok (.aload_n 0, 1) := by decide +kernel
theorem dX3_lossWithout_16 : decode cX3_lossWithout 16 = .ok (.getfield 19, 3) := by decide +kernel
theorem dX3_lossWithout_19 : decode cX3_lossWithout 19 = .ok (.getfield 84, 3) := by decide +kernel
theorem dX3_lossWithout_22 : decode cX3_lossWithout 22 = .ok (.ifCond .le 86, 3) := by decide +kernel
theorem dX3_lossWithout_25 : decode cX3_lossWithout 25 = .ok (.aload_n 0, 1) := by decide +kernel
theorem dX3_lossWithout_26 : decode cX3_lossWithout 26 = .ok (.getfield 19, 3) := by decide +kernel
theorem dX3_lossWithout_29 : decode cX3_lossWithout 29 = .ok (.iload_n 1, 1) := by decide +kernel
theorem dX3_lossWithout_30 : decode cX3_lossWithout 30 = .ok (.invokevirtual 242, 3) := by decide +kernel
theorem dX3_lossWithout_33 : decode cX3_lossWithout 33 = .ok (.ifCond .le 75, 3) := by decide +kernel
theorem dX3_lossWithout_36 : decode cX3_lossWithout 36 = .ok (.aload_n 0, 1) := by decide +kernel
theorem dX3_lossWithout_37 : decode cX3_lossWithout 37 = .ok (.getfield 23, 3) := by decide +kernel
theorem dX3_lossWithout_40 : decode cX3_lossWithout 40 = .ok (.aload_n 0, 1) := by decide +kernel
theorem dX3_lossWithout_41 : decode cX3_lossWithout 41 = .ok (.getfield 19, 3) := by decide +kernel
theorem dX3_lossWithout_44 : decode cX3_lossWithout 44 = .ok (.invokevirtual 127, 3) := by decide +kernel
theorem dX3_lossWithout_47 : decode cX3_lossWithout 47 = .ok (.aload_n 0, 1) := by decide +kernel
theorem dX3_lossWithout_48 : decode cX3_lossWithout 48 = .ok (.getfield 23, 3) := by decide +kernel
theorem dX3_lossWithout_51 : decode cX3_lossWithout 51 = .ok (.iload_n 1, 1) := by decide +kernel
theorem dX3_lossWithout_52 : decode cX3_lossWithout 52 = .ok (.invokevirtual 304, 3) := by decide +kernel
theorem dX3_lossWithout_55 : decode cX3_lossWithout 55 = .ok (.aload_n 0, 1) := by decide +kernel
theorem dX3_lossWithout_56 : decode cX3_lossWithout 56 = .ok (.getfield 23, 3) := by decide +kernel
theorem dX3_lossWithout_59 : decode cX3_lossWithout 59 = .ok (.invokevirtual 33, 3) := by decide +kernel
theorem dX3_lossWithout_62 : decode cX3_lossWithout 62 = .ok (.iconst 0, 1) := by decide +kernel
theorem dX3_lossWithout_63 : decode cX3_lossWithout 63 = .ok (.istore_n 3, 1) := by decide +kernel
theorem dX3_lossWithout_64 : decode cX3_lossWithout 64 = .ok (.iload_n 3, 1) := by decide +kernel
theorem dX3_lossWithout_65 : decode cX3_lossWithout 65 = .ok (.aload_n 0, 1) := by decide +kernel
theorem dX3_lossWithout_66 : decode cX3_lossWithout 66 = .ok (.getfield 19, 3) := by decide +kernel
theorem dX3_lossWithout_69 : decode cX3_lossWithout 69 = .ok (.getfield 84, 3) := by decide +kernel
theorem dX3_lossWithout_72 : decode cX3_lossWithout 72 = .ok (.if_icmp .ge 36, 3) := by decide +kernel
theorem dX3_lossWithout_75 : decode cX3_lossWithout 75 = .ok (.iload_n 2, 1) := by decide +kernel
theorem dX3_lossWithout_76 : decode cX3_lossWithout 76 = .ok (.aload_n 0, 1) := by decide +kernel
theorem dX3_lossWithout_77 : decode cX3_lossWithout 77 = .ok (.getfield 19, 3) := by decide +kernel
theorem dX3_lossWithout_80 : decode cX3_lossWithout 80 = .ok (.iload_n 3, 1) := by decide +kernel
theorem dX3_lossWithout_81 : decode cX3_lossWithout 81 = .ok (.invokevirtual 254, 3) := by decide +kernel
theorem dX3_lossWithout_84 : decode cX3_lossWithout 84 = .ok (.aload_n 0, 1) := by decide +kernel
theorem dX3_lossWithout_85 : decode cX3_lossWithout 85 = .ok (.getfield 23, 3) := by decide +kernel
theorem dX3_lossWithout_88 : decode cX3_lossWithout 88 = .ok (.iload_n 3, 1) := by decide +kernel
theorem dX3_lossWithout_89 : decode cX3_lossWithout 89 = .ok (.invokevirtual 254, 3) := by decide +kernel
theorem dX3_lossWithout_92 : decode cX3_lossWithout 92 = .ok (.if_icmp .ne 7, 3) := by decide +kernel
theorem dX3_lossWithout_95 : decode cX3_lossWithout 95 = .ok (.iconst 0, 1) := by decide +kernel
theorem dX3_lossWithout_96 : decode cX3_lossWithout 96 = .ok (.goto 4, 3) := by decide +kernel
theorem dX3_lossWithout_99 : decode cX3_lossWithout 99 = .ok (.iconst 1, 1) := by decide +kernel
theorem dX3_lossWithout_100 : decode cX3_lossWithout 100 = .ok (.iadd, 1) := by decide +kernel
theorem dX3_lossWithout_101 : decode cX3_lossWithout 101 = .ok (.istore_n 2, 1) := by decide +kernel
theorem dX3_lossWithout_102 : decode cX3_lossWithout 102 = .ok (.iinc 3 1, 3) := by decide +kernel
theorem dX3_lossWithout_105 : decode cX3_lossWithout 105 = .ok (.goto (-41), 3) := by decide +kernel
theorem dX3_lossWithout_108 : decode cX3_lossWithout 108 = .ok (.aload_n 0, 1) := by decide +kernel
theorem dX3_lossWithout_109 : decode cX3_lossWithout 109 = .ok (.getfield 19, 3) := by decide +kernel
theorem dX3_lossWithout_112 : decode cX3_lossWithout 112 = .ok (.getfield 301, 3) := by decide +kernel
theorem dX3_lossWithout_115 : decode cX3_lossWithout 115 = .ok (.iload_n 1, 1) := by decide +kernel
theorem dX3_lossWithout_116 : decode cX3_lossWithout 116 = .ok (.iload_n 2, 1) := by decide +kernel
theorem dX3_lossWithout_117 : decode cX3_lossWithout 117 = .ok (.iastore, 1) := by decide +kernel
theorem dX3_lossWithout_118 : decode cX3_lossWithout 118 = .ok (.aload_n 0, 1) := by decide +kernel
theorem dX3_lossWithout_119 : decode cX3_lossWithout 119 = .ok (.getfield 19, 3) := by decide +kernel
theorem dX3_lossWithout_122 : decode cX3_lossWithout 122 = .ok (.getfield 301, 3) := by decide +kernel
theorem dX3_lossWithout_125 : decode cX3_lossWithout 125 = .ok (.iload_n 1, 1) := by decide +kernel
theorem dX3_lossWithout_126 : decode cX3_lossWithout 126 = .ok (.iaload, 1) := by decide +kernel
theorem dX3_lossWithout_127 : decode cX3_lossWithout 127 = .ok (.ireturn, 1) := by decide +kernel
theorem dX3_importsWithoutLoss_0 : decode cX3_importsWithoutLoss 0 = .ok (.iconst 0, 1) := by decide +kernel
theorem dX3_importsWithoutLoss_1 : decode cX3_importsWithoutLoss 1 = .ok (.istore_n 1, 1) := by decide +kernel
theorem dX3_importsWithoutLoss_2 : decode cX3_importsWithoutLoss 2 = .ok (.iconst 0, 1) := by decide +kernel
theorem dX3_importsWithoutLoss_3 : decode cX3_importsWithoutLoss 3 = .ok (.istore_n 2, 1) := by decide +kernel
theorem dX3_importsWithoutLoss_4 : decode cX3_importsWithoutLoss 4 = .ok (.iload_n 2, 1) := by decide +kernel
theorem dX3_importsWithoutLoss_5 : decode cX3_importsWithoutLoss 5 = .ok (.aload_n 0, 1) := by decide +kernel
theorem dX3_importsWithoutLoss_6 : decode cX3_importsWithoutLoss 6 = .ok (.getfield 19, 3) := by decide +kernel
theorem dX3_importsWithoutLoss_9 : decode cX3_importsWithoutLoss 9 = .ok (.getfield 81, 3) := by decide +kernel
theorem dX3_importsWithoutLoss_12 : decode cX3_importsWithoutLoss 12 = .ok (.if_icmp .ge 25, 3) := by decide +kernel
theorem dX3_importsWithoutLoss_15 : decode cX3_importsWithoutLoss 15 = .ok (.iload_n 1, 1) := by decide +kernel
theorem dX3_importsWithoutLoss_16 : decode cX3_importsWithoutLoss 16 = .ok (.aload_n 0, 1) := by decide +kernel
theorem dX3_importsWithoutLoss_17 : decode cX3_importsWithoutLoss 17 = .ok (.iload_n 2, 1) := by decide +kernel
theorem dX3_importsWithoutLoss_18 : decode cX3_importsWithoutLoss 18 = .ok (.invokevirtual 245, 3) := by decide +kernel
theorem dX3_importsWithoutLoss_21 : decode cX3_importsWithoutLoss 21 = .ok (.ifCond .ne 7, 3) := by decide +kernel
theorem dX3_importsWithoutLoss_24 : decode cX3_importsWithoutLoss 24 = .ok (.iconst 1, 1) := by decide +kernel
theorem dX3_importsWithoutLoss_25 : decode cX3_importsWithoutLoss 25 = .ok (.goto 4, 3) := by decide +kernel
theorem dX3_importsWithoutLoss_28 : decode cX3_importsWithoutLoss 28 = .ok (.iconst 0, 1) := by decide +kernel
theorem dX3_importsWithoutLoss_29 : decode cX3_importsWithoutLoss 29 = .ok (.iadd, 1) := by decide +kernel
theorem dX3_importsWithoutLoss_30 : decode cX3_importsWithoutLoss 30 = .ok (.istore_n 1, 1) := by decide +kernel
theorem dX3_importsWithoutLoss_31 : decode cX3_importsWithoutLoss 31 = .ok (.iinc 2 1, 3) := by decide +kernel
theorem dX3_importsWithoutLoss_34 : decode cX3_importsWithoutLoss 34 = .ok (.goto (-30), 3) := by decide +kernel
theorem dX3_importsWithoutLoss_37 : decode cX3_importsWithoutLoss 37 = .ok (.iload_n 1, 1) := by decide +kernel
theorem dX3_importsWithoutLoss_38 : decode cX3_importsWithoutLoss 38 = .ok (.ireturn, 1) := by decide +kernel
theorem dX3_removeImport_0 : decode cX3_removeImport 0 = .ok (.aload_n 0, 1) := by decide +kernel
theorem dX3_removeImport_1 : decode cX3_removeImport 1 = .ok (.iload_n 1, 1) := by decide +kernel
theorem dX3_removeImport_2 : decode cX3_removeImport 2 = .ok (.invokevirtual 245, 3) := by decide +kernel
theorem dX3_removeImport_5 : decode cX3_removeImport 5 = .ok (.istore_n 2, 1) := by decide +kernel
theorem dX3_removeImport_6 : decode cX3_removeImport 6 = .ok (.aload_n 0, 1) := by decide +kernel
theorem dX3_removeImport_7 : decode cX3_removeImport 7 = .ok (.getfield 19, 3) := by decide +kernel
theorem dX3_removeImport_10 : decode cX3_removeImport 10 = .ok (.iload_n 1, 1) := by decide +kernel
theorem dX3_removeImport_11 : decode cX3_removeImport 11 = .ok (.invokevirtual 304, 3) := by decide +kernel
theorem dX3_removeImport_14 : decode cX3_removeImport 14 = .ok (.aload_n 0, 1) := by decide +kernel
theorem dX3_removeImport_15 : decode cX3_removeImport 15 = .ok (.getfield 19, 3) := by decide +kernel
theorem dX3_removeImport_18 : decode cX3_removeImport 18 = .ok (.invokevirtual 33, 3) := by decide +kernel
theorem dX3_removeImport_21 : decode cX3_removeImport 21 = .ok (.iload_n 2, 1) := by decide +kernel
theorem dX3_removeImport_22 : decode cX3_removeImport 22 = .ok (.ireturn, 1) := by decide +kernel
theorem dX3_removeDeclaration_0 : decode cX3_removeDeclaration 0 = .ok (.aload_n 0, 1) := by decide +kernel
theorem dX3_removeDeclaration_1 : decode cX3_removeDeclaration 1 = .ok (.getfield 23, 3) := by decide +kernel
theorem dX3_removeDeclaration_4 : decode cX3_removeDeclaration 4 = .ok (.aload_n 0, 1) := by decide +kernel
theorem dX3_removeDeclaration_5 : decode cX3_removeDeclaration 5 = .ok (.getfield 19, 3) := by decide +kernel
theorem dX3_removeDeclaration_8 : decode cX3_removeDeclaration 8 = .ok (.invokevirtual 127, 3) := by decide +kernel
theorem dX3_removeDeclaration_11 : decode cX3_removeDeclaration 11 = .ok (.aload_n 0, 1) := by decide +kernel
theorem dX3_removeDeclaration_12 : decode cX3_removeDeclaration 12 = .ok (.getfield 23, 3) := by decide +kernel
theorem dX3_removeDeclaration_15 : decode cX3_removeDeclaration 15 = .ok (.iload_n 1, 1) := by decide +kernel
theorem dX3_removeDeclaration_16 : decode cX3_removeDeclaration 16 = .ok (.invokevirtual 307, 3) := by decide +kernel
theorem dX3_removeDeclaration_19 : decode cX3_removeDeclaration 19 = .ok (.aload_n 0, 1) := by decide +kernel
theorem dX3_removeDeclaration_20 : decode cX3_removeDeclaration 20 = .ok (.getfield 23, 3) := by decide +kernel
theorem dX3_removeDeclaration_23 : decode cX3_removeDeclaration 23 = .ok (.invokevirtual 33, 3) := by decide +kernel
theorem dX3_removeDeclaration_26 : decode cX3_removeDeclaration 26 = .ok (.iconst 0, 1) := by decide +kernel
theorem dX3_removeDeclaration_27 : decode cX3_removeDeclaration 27 = .ok (.istore_n 2, 1) := by decide +kernel
theorem dX3_removeDeclaration_28 : decode cX3_removeDeclaration 28 = .ok (.iconst 1, 1) := by decide +kernel
theorem dX3_removeDeclaration_29 : decode cX3_removeDeclaration 29 = .ok (.iload_n 1, 1) := by decide +kernel
theorem dX3_removeDeclaration_30 : decode cX3_removeDeclaration 30 = .ok (.ishl, 1) := by decide +kernel
theorem dX3_removeDeclaration_31 : decode cX3_removeDeclaration 31 = .ok (.iconst 1, 1) := by decide +kernel
theorem dX3_removeDeclaration_32 : decode cX3_removeDeclaration 32 = .ok (.isub, 1) := by decide +kernel
theorem dX3_removeDeclaration_33 : decode cX3_removeDeclaration 33 = .ok (.istore_n 3, 1) := by decide +kernel
theorem dX3_removeDeclaration_34 : decode cX3_removeDeclaration 34 = .ok (.iconst 0, 1) := by decide +kernel
theorem dX3_removeDeclaration_35 : decode cX3_removeDeclaration 35 = .ok (.istore 4, 2) := by decide +kernel
theorem dX3_removeDeclaration_37 : decode cX3_removeDeclaration 37 = .ok (.iload 4, 2) := by decide +kernel
theorem dX3_removeDeclaration_39 : decode cX3_removeDeclaration 39 = .ok (.aload_n 0, 1) := by decide +kernel
theorem dX3_removeDeclaration_40 : decode cX3_removeDeclaration 40 = .ok (.getfield 19, 3) := by decide +kernel
theorem dX3_removeDeclaration_43 : decode cX3_removeDeclaration 43 = .ok (.getfield 84, 3) := by decide +kernel
theorem dX3_removeDeclaration_46 : decode cX3_removeDeclaration 46 = .ok (.if_icmp .ge 78, 3) := by decide +kernel
theorem dX3_removeDeclaration_49 : decode cX3_removeDeclaration 49 = .ok (.aload_n 0, 1) := by decide +kernel
theorem dX3_removeDeclaration_50 : decode cX3_removeDeclaration 50 = .ok (.getfield 19, 3) := by decide +kernel
theorem dX3_removeDeclaration_53 : decode cX3_removeDeclaration 53 = .ok (.iload 4, 2) := by decide +kernel
theorem dX3_removeDeclaration_55 : decode cX3_removeDeclaration 55 = .ok (.invokevirtual 254, 3) := by decide +kernel
theorem dX3_removeDeclaration_58 : decode cX3_removeDeclaration 58 = .ok (.istore 5, 2) := by decide +kernel
theorem dX3_removeDeclaration_60 : decode cX3_removeDeclaration 60 = .ok (.iload 5, 2) := by decide +kernel
theorem dX3_removeDeclaration_62 : decode cX3_removeDeclaration 62 = .ok (.iload_n 3, 1) := by decide +kernel
theorem dX3_removeDeclaration_63 : decode cX3_removeDeclaration 63 = .ok (.iand, 1) := by decide +kernel
theorem dX3_removeDeclaration_64 : decode cX3_removeDeclaration 64 = .ok (.iload 5, 2) := by decide +kernel
theorem dX3_removeDeclaration_66 : decode cX3_removeDeclaration 66 = .ok (.iconst 1, 1) := by decide +kernel
theorem dX3_removeDeclaration_67 : decode cX3_removeDeclaration 67 = .ok (.ishr, 1) := by decide +kernel
theorem dX3_removeDeclaration_68 : decode cX3_removeDeclaration 68 = .ok (.iload_n 3, 1) := by decide +kernel
theorem dX3_removeDeclaration_69 : decode cX3_removeDeclaration 69 = .ok (.iconst (-1), 1) := by decide +kernel
theorem dX3_removeDeclaration_70 : decode cX3_removeDeclaration 70 = .ok (.ixor, 1) := by decide +kernel
theorem dX3_removeDeclaration_71 : decode cX3_removeDeclaration 71 = .ok (.iand, 1) := by decide +kernel
theorem dX3_removeDeclaration_72 : decode cX3_removeDeclaration 72 = .ok (.ior, 1) := by decide +kernel
theorem dX3_removeDeclaration_73 : decode cX3_removeDeclaration 73 = .ok (.istore 6, 2) := by decide +kernel
theorem dX3_removeDeclaration_75 : decode cX3_removeDeclaration 75 = .ok (.iload 5, 2) := by decide +kernel
theorem dX3_removeDeclaration_77 : decode cX3_removeDeclaration 77 = .ok (.iload_n 1, 1) := by decide +kernel
theorem dX3_removeDeclaration_78 : decode cX3_removeDeclaration 78 = .ok (.ishr, 1) := by decide +kernel
theorem dX3_removeDeclaration_79 : decode cX3_removeDeclaration 79 = .ok (.iconst 1, 1) := by decide +kernel
theorem dX3_removeDeclaration_80 : decode cX3_removeDeclaration 80 = .ok (.iand, 1) := by decide +kernel
theorem dX3_removeDeclaration_81 : decode cX3_removeDeclaration 81 = .ok (.ifCond .eq 7, 3) := by decide +kernel
theorem dX3_removeDeclaration_84 : decode cX3_removeDeclaration 84 = .ok (.iconst 1, 1) := by decide +kernel
theorem dX3_removeDeclaration_85 : decode cX3_removeDeclaration 85 = .ok (.goto 4, 3) := by decide +kernel
theorem dX3_removeDeclaration_88 : decode cX3_removeDeclaration 88 = .ok (.iconst 0, 1) := by decide +kernel
theorem dX3_removeDeclaration_89 : decode cX3_removeDeclaration 89 = .ok (.istore 7, 2) := by decide +kernel
theorem dX3_removeDeclaration_91 : decode cX3_removeDeclaration 91 = .ok (.iload_n 2, 1) := by decide +kernel
theorem dX3_removeDeclaration_92 : decode cX3_removeDeclaration 92 = .ok (.iload 7, 2) := by decide +kernel
theorem dX3_removeDeclaration_94 : decode cX3_removeDeclaration 94 = .ok (.ifCond .ne 17, 3) := by decide +kernel
theorem dX3_removeDeclaration_97 : decode cX3_removeDeclaration 97 = .ok (.iload 6, 2) := by decide +kernel
theorem dX3_removeDeclaration_99 : decode cX3_removeDeclaration 99 = .ok (.aload_n 0, 1) := by decide +kernel
theorem dX3_removeDeclaration_100 : decode cX3_removeDeclaration 100 = .ok (.getfield 23, 3) := by decide +kernel
theorem dX3_removeDeclaration_103 : decode cX3_removeDeclaration 103 = .ok (.iload 4, 2) := by decide +kernel
theorem dX3_removeDeclaration_105 : decode cX3_removeDeclaration 105 = .ok (.invokevirtual 254, 3) := by decide +kernel
theorem dX3_removeDeclaration_108 : decode cX3_removeDeclaration 108 = .ok (.if_icmp .eq 7, 3) := by decide +kernel
theorem dX3_removeDeclaration_111 : decode cX3_removeDeclaration 111 = .ok (.iconst 1, 1) := by decide +kernel
theorem dX3_removeDeclaration_112 : decode cX3_removeDeclaration 112 = .ok (.goto 4, 3) := by decide +kernel
theorem dX3_removeDeclaration_115 : decode cX3_removeDeclaration 115 = .ok (.iconst 0, 1) := by decide +kernel
theorem dX3_removeDeclaration_116 : decode cX3_removeDeclaration 116 = .ok (.iadd, 1) := by decide +kernel
theorem dX3_removeDeclaration_117 : decode cX3_removeDeclaration 117 = .ok (.istore_n 2, 1) := by decide +kernel
theorem dX3_removeDeclaration_118 : decode cX3_removeDeclaration 118 = .ok (.iinc 4 1, 3) := by decide +kernel
theorem dX3_removeDeclaration_121 : decode cX3_removeDeclaration 121 = .ok (.goto (-84), 3) := by decide +kernel
theorem dX3_removeDeclaration_124 : decode cX3_removeDeclaration 124 = .ok (.aload_n 0, 1) := by decide +kernel
theorem dX3_removeDeclaration_125 : decode cX3_removeDeclaration 125 = .ok (.invokevirtual 137, 3) := by decide +kernel
theorem dX3_removeDeclaration_128 : decode cX3_removeDeclaration 128 = .ok (.iload_n 2, 1) := by decide +kernel
theorem dX3_removeDeclaration_129 : decode cX3_removeDeclaration 129 = .ok (.ireturn, 1) := by decide +kernel
theorem dX3_reasonAgainst_0 : decode cX3_reasonAgainst 0 = .ok (.aload_n 0, 1) := by decide +kernel
theorem dX3_reasonAgainst_1 : decode cX3_reasonAgainst 1 = .ok (.getfield 19, 3) := by decide +kernel
theorem dX3_reasonAgainst_4 : decode cX3_reasonAgainst 4 = .ok (.getfield 206, 3) := by decide +kernel
theorem dX3_reasonAgainst_7 : decode cX3_reasonAgainst 7 = .ok (.iload_n 1, 1) := by decide +kernel
theorem dX3_reasonAgainst_8 : decode cX3_reasonAgainst 8 = .ok (.iaload, 1) := by decide +kernel
theorem dX3_reasonAgainst_9 : decode cX3_reasonAgainst 9 = .ok (.istore_n 3, 1) := by decide +kernel
theorem dX3_reasonAgainst_10 : decode cX3_reasonAgainst 10 = .ok (.aload_n 0, 1) := by decide +kernel
theorem dX3_reasonAgainst_11 : decode cX3_reasonAgainst 11 = .ok (.getfield 19, 3) := by decide +kernel
theorem dX3_reasonAgainst_14 : decode cX3_reasonAgainst 14 = .ok (.getfield 168, 3) := by decide +kernel
theorem dX3_reasonAgainst_17 : decode cX3_reasonAgainst 17 = .ok (.getfield 310, 3) := by decide +kernel
theorem dX3_reasonAgainst_20 : decode cX3_reasonAgainst 20 = .ok (.iload_n 3, 1) := by decide +kernel
theorem dX3_reasonAgainst_21 : decode cX3_reasonAgainst 21 = .ok (.bipush 26, 2) := by decide +kernel
theorem dX3_reasonAgainst_23 : decode cX3_reasonAgainst 23 = .ok (.imul, 1) := by decide +kernel
theorem dX3_reasonAgainst_24 : decode cX3_reasonAgainst 24 = .ok (.iload_n 2, 1) := by decide +kernel
theorem dX3_reasonAgainst_25 : decode cX3_reasonAgainst 25 = .ok (.iadd, 1) := by decide +kernel
theorem dX3_reasonAgainst_26 : decode cX3_reasonAgainst 26 = .ok (.iaload, 1) := by decide +kernel
theorem dX3_reasonAgainst_27 : decode cX3_reasonAgainst 27 = .ok (.ifCond .eq 5, 3) := by decide +kernel
theorem dX3_reasonAgainst_30 : decode cX3_reasonAgainst 30 = .ok (.iconst 1, 1) := by decide +kernel
theorem dX3_reasonAgainst_31 : decode cX3_reasonAgainst 31 = .ok (.ireturn, 1) := by decide +kernel
theorem dX3_reasonAgainst_32 : decode cX3_reasonAgainst 32 = .ok (.aload_n 0, 1) := by decide +kernel
theorem dX3_reasonAgainst_33 : decode cX3_reasonAgainst 33 = .ok (.getfield 23, 3) := by decide +kernel
theorem dX3_reasonAgainst_36 : decode cX3_reasonAgainst 36 = .ok (.aload_n 0, 1) := by decide +kernel
theorem dX3_reasonAgainst_37 : decode cX3_reasonAgainst 37 = .ok (.getfield 19, 3) := by decide +kernel
theorem dX3_reasonAgainst_40 : decode cX3_reasonAgainst 40 = .ok (.invokevirtual 127, 3) := by decide +kernel
theorem dX3_reasonAgainst_43 : decode cX3_reasonAgainst 43 = .ok (.aload_n 0, 1) := by decide +kernel
theorem dX3_reasonAgainst_44 : decode cX3_reasonAgainst 44 = .ok (.getfield 23, 3) := by decide +kernel
theorem dX3_reasonAgainst_47 : decode cX3_reasonAgainst 47 = .ok (.iload_n 1, 1) := by decide +kernel
theorem dX3_reasonAgainst_48 : decode cX3_reasonAgainst 48 = .ok (.iload_n 2, 1) := by decide +kernel
theorem dX3_reasonAgainst_49 : decode cX3_reasonAgainst 49 = .ok (.aload_n 0, 1) := by decide +kernel
theorem dX3_reasonAgainst_50 : decode cX3_reasonAgainst 50 = .ok (.getfield 19, 3) := by decide +kernel
theorem dX3_reasonAgainst_53 : decode cX3_reasonAgainst 53 = .ok (.invokevirtual 313, 3) := by decide +kernel
theorem dX3_reasonAgainst_56 : decode cX3_reasonAgainst 56 = .ok (.aload_n 0, 1) := by decide +kernel
theorem dX3_reasonAgainst_57 : decode cX3_reasonAgainst 57 = .ok (.getfield 23, 3) := by decide +kernel
theorem dX3_reasonAgainst_60 : decode cX3_reasonAgainst 60 = .ok (.invokevirtual 33, 3) := by decide +kernel
theorem dX3_reasonAgainst_63 : decode cX3_reasonAgainst 63 = .ok (.aload_n 0, 1) := by decide +kernel
theorem dX3_reasonAgainst_64 : decode cX3_reasonAgainst 64 = .ok (.iload_n 1, 1) := by decide +kernel
theorem dX3_reasonAgainst_65 : decode cX3_reasonAgainst 65 = .ok (.iconst 1, 1) := by decide +kernel
theorem dX3_reasonAgainst_66 : decode cX3_reasonAgainst 66 = .ok (.invokevirtual 184, 3) := by decide +kernel
theorem dX3_reasonAgainst_69 : decode cX3_reasonAgainst 69 = .ok (.iconst (-1), 1) := by decide +kernel
theorem dX3_reasonAgainst_70 : decode cX3_reasonAgainst 70 = .ok (.if_icmp .eq 5, 3) := by decide +kernel
theorem dX3_reasonAgainst_73 : decode cX3_reasonAgainst 73 = .ok (.iconst 2, 1) := by decide +kernel
theorem dX3_reasonAgainst_74 : decode cX3_reasonAgainst 74 = .ok (.ireturn, 1) := by decide +kernel
theorem dX3_reasonAgainst_75 : decode cX3_reasonAgainst 75 = .ok (.aload_n 0, 1) := by decide +kernel
theorem dX3_reasonAgainst_76 : decode cX3_reasonAgainst 76 = .ok (.iload_n 1, 1) := by decide +kernel
theorem dX3_reasonAgainst_77 : decode cX3_reasonAgainst 77 = .ok (.iconst 0, 1) := by decide +kernel
theorem dX3_reasonAgainst_78 : decode cX3_reasonAgainst 78 = .ok (.invokevirtual 184, 3) := by decide +kernel
theorem dX3_reasonAgainst_81 : decode cX3_reasonAgainst 81 = .ok (.iconst (-1), 1) := by decide +kernel
theorem dX3_reasonAgainst_82 : decode cX3_reasonAgainst 82 = .ok (.if_icmp .eq 7, 3) := by decide +kernel
theorem dX3_reasonAgainst_85 : decode cX3_reasonAgainst 85 = .ok (.iconst 3, 1) := by decide +kernel
theorem dX3_reasonAgainst_86 : decode cX3_reasonAgainst 86 = .ok (.goto 4, 3) := by decide +kernel
theorem dX3_reasonAgainst_89 : decode cX3_reasonAgainst 89 = .ok (.iconst 0, 1) := by decide +kernel
theorem dX3_reasonAgainst_90 : decode cX3_reasonAgainst 90 = .ok (.ireturn, 1) := by decide +kernel
theorem dX3_firstChanged_0 : decode cX3_firstChanged 0 = .ok (.iconst 0, 1) := by decide +kernel
theorem dX3_firstChanged_1 : decode cX3_firstChanged 1 = .ok (.istore_n 3, 1) := by decide +kernel
theorem dX3_firstChanged_2 : decode cX3_firstChanged 2 = .ok (.iload_n 3, 1) := by decide +kernel
theorem dX3_firstChanged_3 : decode cX3_firstChanged 3 = .ok (.aload_n 0, 1) := by decide +kernel
theorem dX3_firstChanged_4 : decode cX3_firstChanged 4 = .ok (.getfield 19, 3) := by decide +kernel
theorem dX3_firstChanged_7 : decode cX3_firstChanged 7 = .ok (.getfield 84, 3) := by decide +kernel
theorem dX3_firstChanged_10 : decode cX3_firstChanged 10 = .ok (.if_icmp .ge 55, 3) := by decide +kernel
theorem dX3_firstChanged_13 : decode cX3_firstChanged 13 = .ok (.aload_n 0, 1) := by decide +kernel
theorem dX3_firstChanged_14 : decode cX3_firstChanged 14 = .ok (.getfield 19, 3) := by decide +kernel
theorem dX3_firstChanged_17 : decode cX3_firstChanged 17 = .ok (.iload_n 3, 1) := by decide +kernel
theorem dX3_firstChanged_18 : decode cX3_firstChanged 18 = .ok (.invokevirtual 254, 3) := by decide +kernel
theorem dX3_firstChanged_21 : decode cX3_firstChanged 21 = .ok (.istore 4, 2) := by decide +kernel
theorem dX3_firstChanged_23 : decode cX3_firstChanged 23 = .ok (.iload 4, 2) := by decide +kernel
theorem dX3_firstChanged_25 : decode cX3_firstChanged 25 = .ok (.iconst 1, 1) := by decide +kernel
theorem dX3_firstChanged_26 : decode cX3_firstChanged 26 = .ok (.iload_n 1, 1) := by decide +kernel
theorem dX3_firstChanged_27 : decode cX3_firstChanged 27 = .ok (.ishl, 1) := by decide +kernel
theorem dX3_firstChanged_28 : decode cX3_firstChanged 28 = .ok (.if_icmp .ne 7, 3) := by decide +kernel
theorem dX3_firstChanged_31 : decode cX3_firstChanged 31 = .ok (.iconst 1, 1) := by decide +kernel
theorem dX3_firstChanged_32 : decode cX3_firstChanged 32 = .ok (.goto 4, 3) := by decide +kernel
theorem dX3_firstChanged_35 : decode cX3_firstChanged 35 = .ok (.iconst 0, 1) := by decide +kernel
theorem dX3_firstChanged_36 : decode cX3_firstChanged 36 = .ok (.istore 5, 2) := by decide +kernel
theorem dX3_firstChanged_38 : decode cX3_firstChanged 38 = .ok (.iload 5, 2) := by decide +kernel
theorem dX3_firstChanged_40 : decode cX3_firstChanged 40 = .ok (.iload_n 2, 1) := by decide +kernel
theorem dX3_firstChanged_41 : decode cX3_firstChanged 41 = .ok (.if_icmp .ne 18, 3) := by decide +kernel
theorem dX3_firstChanged_44 : decode cX3_firstChanged 44 = .ok (.iload 4, 2) := by decide +kernel
theorem dX3_firstChanged_46 : decode cX3_firstChanged 46 = .ok (.aload_n 0, 1) := by decide +kernel
theorem dX3_firstChanged_47 : decode cX3_firstChanged 47 = .ok (.getfield 23, 3) := by decide +kernel
theorem dX3_firstChanged_50 : decode cX3_firstChanged 50 = .ok (.iload_n 3, 1) := by decide +kernel
theorem dX3_firstChanged_51 : decode cX3_firstChanged 51 = .ok (.invokevirtual 254, 3) := by decide +kernel
theorem dX3_firstChanged_54 : decode cX3_firstChanged 54 = .ok (.if_icmp .eq 5, 3) := by decide +kernel
theorem dX3_firstChanged_57 : decode cX3_firstChanged 57 = .ok (.iload_n 3, 1) := by decide +kernel
theorem dX3_firstChanged_58 : decode cX3_firstChanged 58 = .ok (.ireturn, 1) := by decide +kernel
theorem dX3_firstChanged_59 : decode cX3_firstChanged 59 = .ok (.iinc 3 1, 3) := by decide +kernel
theorem dX3_firstChanged_62 : decode cX3_firstChanged 62 = .ok (.goto (-60), 3) := by decide +kernel
theorem dX3_firstChanged_65 : decode cX3_firstChanged 65 = .ok (.iconst (-1), 1) := by decide +kernel
theorem dX3_firstChanged_66 : decode cX3_firstChanged 66 = .ok (.ireturn, 1) := by decide +kernel
theorem dX3_usesToRename_0 : decode cX3_usesToRename 0 = .ok (.iconst 0, 1) := by decide +kernel
theorem dX3_usesToRename_1 : decode cX3_usesToRename 1 = .ok (.istore_n 2, 1) := by decide +kernel
theorem dX3_usesToRename_2 : decode cX3_usesToRename 2 = .ok (.iconst 0, 1) := by decide +kernel
theorem dX3_usesToRename_3 : decode cX3_usesToRename 3 = .ok (.istore_n 3, 1) := by decide +kernel
theorem dX3_usesToRename_4 : decode cX3_usesToRename 4 = .ok (.iload_n 3, 1) := by decide +kernel
theorem dX3_usesToRename_5 : decode cX3_usesToRename 5 = .ok (.aload_n 0, 1) := by decide +kernel
theorem dX3_usesToRename_6 : decode cX3_usesToRename 6 = .ok (.getfield 19, 3) := by decide +kernel
theorem dX3_usesToRename_9 : decode cX3_usesToRename 9 = .ok (.getfield 84, 3) := by decide +kernel
theorem dX3_usesToRename_12 : decode cX3_usesToRename 12 = .ok (.if_icmp .ge 29, 3) := by decide +kernel
theorem dX3_usesToRename_15 : decode cX3_usesToRename 15 = .ok (.iload_n 2, 1) := by decide +kernel
theorem dX3_usesToRename_16 : decode cX3_usesToRename 16 = .ok (.aload_n 0, 1) := by decide +kernel
theorem dX3_usesToRename_17 : decode cX3_usesToRename 17 = .ok (.getfield 19, 3) := by decide +kernel
theorem dX3_usesToRename_20 : decode cX3_usesToRename 20 = .ok (.iload_n 3, 1) := by decide +kernel
theorem dX3_usesToRename_21 : decode cX3_usesToRename 21 = .ok (.iload_n 1, 1) := by decide +kernel
theorem dX3_usesToRename_22 : decode cX3_usesToRename 22 = .ok (.invokevirtual 317, 3) := by decide +kernel
theorem dX3_usesToRename_25 : decode cX3_usesToRename 25 = .ok (.ifCond .eq 7, 3) := by decide +kernel
theorem dX3_usesToRename_28 : decode cX3_usesToRename 28 = .ok (.iconst 1, 1) := by decide +kernel
theorem dX3_usesToRename_29 : decode cX3_usesToRename 29 = .ok (.goto 4, 3) := by decide +kernel
theorem dX3_usesToRename_32 : decode cX3_usesToRename 32 = .ok (.iconst 0, 1) := by decide +kernel
theorem dX3_usesToRename_33 : decode cX3_usesToRename 33 = .ok (.iadd, 1) := by decide +kernel
theorem dX3_usesToRename_34 : decode cX3_usesToRename 34 = .ok (.istore_n 2, 1) := by decide +kernel
theorem dX3_usesToRename_35 : decode cX3_usesToRename 35 = .ok (.iinc 3 1, 3) := by decide +kernel
theorem dX3_usesToRename_38 : decode cX3_usesToRename 38 = .ok (.goto (-34), 3) := by decide +kernel
theorem dX3_usesToRename_41 : decode cX3_usesToRename 41 = .ok (.iload_n 2, 1) := by decide +kernel
theorem dX3_usesToRename_42 : decode cX3_usesToRename 42 = .ok (.ireturn, 1) := by decide +kernel
theorem dJ6_bitCount_0f7a4_0 : decode cJ6_bitCount_0f7a4 0 = .ok (.iload_n 0, 1) := by decide +kernel
theorem dJ6_bitCount_0f7a4_1 : decode cJ6_bitCount_0f7a4 1 = .ok (.iload_n 0, 1) := by decide +kernel
theorem dJ6_bitCount_0f7a4_2 : decode cJ6_bitCount_0f7a4 2 = .ok (.iconst 1, 1) := by decide +kernel
theorem dJ6_bitCount_0f7a4_3 : decode cJ6_bitCount_0f7a4 3 = .ok (.iushr, 1) := by decide +kernel
theorem dJ6_bitCount_0f7a4_4 : decode cJ6_bitCount_0f7a4 4 = .ok (.ldc_w 265, 3) := by decide +kernel
theorem dJ6_bitCount_0f7a4_7 : decode cJ6_bitCount_0f7a4 7 = .ok (.iand, 1) := by decide +kernel
theorem dJ6_bitCount_0f7a4_8 : decode cJ6_bitCount_0f7a4 8 = .ok (.isub, 1) := by decide +kernel
theorem dJ6_bitCount_0f7a4_9 : decode cJ6_bitCount_0f7a4 9 = .ok (.istore_n 0, 1) := by decide +kernel
theorem dJ6_bitCount_0f7a4_10 : decode cJ6_bitCount_0f7a4 10 = .ok (.iload_n 0, 1) := by decide +kernel
theorem dJ6_bitCount_0f7a4_11 : decode cJ6_bitCount_0f7a4 11 = .ok (.ldc_w 266, 3) := by decide +kernel
theorem dJ6_bitCount_0f7a4_14 : decode cJ6_bitCount_0f7a4 14 = .ok (.iand, 1) := by decide +kernel
theorem dJ6_bitCount_0f7a4_15 : decode cJ6_bitCount_0f7a4 15 = .ok (.iload_n 0, 1) := by decide +kernel
theorem dJ6_bitCount_0f7a4_16 : decode cJ6_bitCount_0f7a4 16 = .ok (.iconst 2, 1) := by decide +kernel
theorem dJ6_bitCount_0f7a4_17 : decode cJ6_bitCount_0f7a4 17 = .ok (.iushr, 1) := by decide +kernel
theorem dJ6_bitCount_0f7a4_18 : decode cJ6_bitCount_0f7a4 18 = .ok (.ldc_w 266, 3) := by decide +kernel
theorem dJ6_bitCount_0f7a4_21 : decode cJ6_bitCount_0f7a4 21 = .ok (.iand, 1) := by decide +kernel
theorem dJ6_bitCount_0f7a4_22 : decode cJ6_bitCount_0f7a4 22 = .ok (.iadd, 1) := by decide +kernel
theorem dJ6_bitCount_0f7a4_23 : decode cJ6_bitCount_0f7a4 23 = .ok (.istore_n 0, 1) := by decide +kernel
theorem dJ6_bitCount_0f7a4_24 : decode cJ6_bitCount_0f7a4 24 = .ok (.iload_n 0, 1) := by decide +kernel
theorem dJ6_bitCount_0f7a4_25 : decode cJ6_bitCount_0f7a4 25 = .ok (.iload_n 0, 1) := by decide +kernel
theorem dJ6_bitCount_0f7a4_26 : decode cJ6_bitCount_0f7a4 26 = .ok (.iconst 4, 1) := by decide +kernel
theorem dJ6_bitCount_0f7a4_27 : decode cJ6_bitCount_0f7a4 27 = .ok (.iushr, 1) := by decide +kernel
theorem dJ6_bitCount_0f7a4_28 : decode cJ6_bitCount_0f7a4 28 = .ok (.iadd, 1) := by decide +kernel
theorem dJ6_bitCount_0f7a4_29 : decode cJ6_bitCount_0f7a4 29 = .ok (.ldc_w 267, 3) := by decide +kernel
theorem dJ6_bitCount_0f7a4_32 : decode cJ6_bitCount_0f7a4 32 = .ok (.iand, 1) := by decide +kernel
theorem dJ6_bitCount_0f7a4_33 : decode cJ6_bitCount_0f7a4 33 = .ok (.istore_n 0, 1) := by decide +kernel
theorem dJ6_bitCount_0f7a4_34 : decode cJ6_bitCount_0f7a4 34 = .ok (.iload_n 0, 1) := by decide +kernel
theorem dJ6_bitCount_0f7a4_35 : decode cJ6_bitCount_0f7a4 35 = .ok (.iload_n 0, 1) := by decide +kernel
theorem dJ6_bitCount_0f7a4_36 : decode cJ6_bitCount_0f7a4 36 = .ok (.bipush 8, 2) := by decide +kernel
theorem dJ6_bitCount_0f7a4_38 : decode cJ6_bitCount_0f7a4 38 = .ok (.iushr, 1) := by decide +kernel
theorem dJ6_bitCount_0f7a4_39 : decode cJ6_bitCount_0f7a4 39 = .ok (.iadd, 1) := by decide +kernel
theorem dJ6_bitCount_0f7a4_40 : decode cJ6_bitCount_0f7a4 40 = .ok (.istore_n 0, 1) := by decide +kernel
theorem dJ6_bitCount_0f7a4_41 : decode cJ6_bitCount_0f7a4 41 = .ok (.iload_n 0, 1) := by decide +kernel
theorem dJ6_bitCount_0f7a4_42 : decode cJ6_bitCount_0f7a4 42 = .ok (.iload_n 0, 1) := by decide +kernel
theorem dJ6_bitCount_0f7a4_43 : decode cJ6_bitCount_0f7a4 43 = .ok (.bipush 16, 2) := by decide +kernel
theorem dJ6_bitCount_0f7a4_45 : decode cJ6_bitCount_0f7a4 45 = .ok (.iushr, 1) := by decide +kernel
theorem dJ6_bitCount_0f7a4_46 : decode cJ6_bitCount_0f7a4 46 = .ok (.iadd, 1) := by decide +kernel
theorem dJ6_bitCount_0f7a4_47 : decode cJ6_bitCount_0f7a4 47 = .ok (.istore_n 0, 1) := by decide +kernel
theorem dJ6_bitCount_0f7a4_48 : decode cJ6_bitCount_0f7a4 48 = .ok (.iload_n 0, 1) := by decide +kernel
theorem dJ6_bitCount_0f7a4_49 : decode cJ6_bitCount_0f7a4 49 = .ok (.bipush 63, 2) := by decide +kernel
theorem dJ6_bitCount_0f7a4_51 : decode cJ6_bitCount_0f7a4 51 = .ok (.iand, 1) := by decide +kernel
theorem dJ6_bitCount_0f7a4_52 : decode cJ6_bitCount_0f7a4 52 = .ok (.ireturn, 1) := by decide +kernel
theorem dJ9_max_7cf53_0 : decode cJ9_max_7cf53 0 = .ok (.iload_n 0, 1) := by decide +kernel
theorem dJ9_max_7cf53_1 : decode cJ9_max_7cf53 1 = .ok (.iload_n 1, 1) := by decide +kernel
theorem dJ9_max_7cf53_2 : decode cJ9_max_7cf53 2 = .ok (.if_icmp .lt 7, 3) := by decide +kernel
theorem dJ9_max_7cf53_5 : decode cJ9_max_7cf53 5 = .ok (.iload_n 0, 1) := by decide +kernel
theorem dJ9_max_7cf53_6 : decode cJ9_max_7cf53 6 = .ok (.goto 4, 3) := by decide +kernel
theorem dJ9_max_7cf53_9 : decode cJ9_max_7cf53 9 = .ok (.iload_n 1, 1) := by decide +kernel
theorem dJ9_max_7cf53_10 : decode cJ9_max_7cf53 10 = .ok (.ireturn, 1) := by decide +kernel
theorem dJ7_fill_53178_0 : decode cJ7_fill_53178 0 = .ok (.iconst 0, 1) := by decide +kernel
theorem dJ7_fill_53178_1 : decode cJ7_fill_53178 1 = .ok (.istore_n 2, 1) := by decide +kernel
theorem dJ7_fill_53178_2 : decode cJ7_fill_53178 2 = .ok (.aload_n 0, 1) := by decide +kernel
theorem dJ7_fill_53178_3 : decode cJ7_fill_53178 3 = .ok (.arraylength, 1) := by decide +kernel
theorem dJ7_fill_53178_4 : decode cJ7_fill_53178 4 = .ok (.istore_n 3, 1) := by decide +kernel
theorem dJ7_fill_53178_5 : decode cJ7_fill_53178 5 = .ok (.iload_n 2, 1) := by decide +kernel
theorem dJ7_fill_53178_6 : decode cJ7_fill_53178 6 = .ok (.iload_n 3, 1) := by decide +kernel
theorem dJ7_fill_53178_7 : decode cJ7_fill_53178 7 = .ok (.if_icmp .ge 13, 3) := by decide +kernel
theorem dJ7_fill_53178_10 : decode cJ7_fill_53178 10 = .ok (.aload_n 0, 1) := by decide +kernel
theorem dJ7_fill_53178_11 : decode cJ7_fill_53178 11 = .ok (.iload_n 2, 1) := by decide +kernel
theorem dJ7_fill_53178_12 : decode cJ7_fill_53178 12 = .ok (.iload_n 1, 1) := by decide +kernel
theorem dJ7_fill_53178_13 : decode cJ7_fill_53178 13 = .ok (.iastore, 1) := by decide +kernel
theorem dJ7_fill_53178_14 : decode cJ7_fill_53178 14 = .ok (.iinc 2 1, 3) := by decide +kernel
theorem dJ7_fill_53178_17 : decode cJ7_fill_53178 17 = .ok (.goto (-12), 3) := by decide +kernel
theorem dJ7_fill_53178_20 : decode cJ7_fill_53178 20 = .ok (.return_, 1) := by decide +kernel
end
section
theorem dX4_init_0 : decode cX4_init 0 = .ok (.aload_n 0, 1) := by decide +kernel
theorem dX4_init_1 : decode cX4_init 1 = .ok (.invokespecial 1, 3) := by decide +kernel
theorem dX4_init_4 : decode cX4_init 4 = .ok (.aload_n 0, 1) := by decide +kernel
theorem dX4_init_5 : decode cX4_init 5 = .ok (.sipush 290, 3) := by decide +kernel
theorem dX4_init_8 : decode cX4_init 8 = .ok (.newarray .int, 2) := by decide +kernel
theorem dX4_init_10 : decode cX4_init 10 = .ok (.putfield 7, 3) := by decide +kernel
theorem dX4_init_13 : decode cX4_init 13 = .ok (.aload_n 0, 1) := by decide +kernel
theorem dX4_init_14 : decode cX4_init 14 = .ok (.sipush 290, 3) := by decide +kernel
theorem dX4_init_17 : decode cX4_init 17 = .ok (.newarray .int, 2) := by decide +kernel
theorem dX4_init_19 : decode cX4_init 19 = .ok (.putfield 13, 3) := by decide +kernel
theorem dX4_init_22 : decode cX4_init 22 = .ok (.aload_n 0, 1) := by decide +kernel
theorem dX4_init_23 : decode cX4_init 23 = .ok (.sipush 416, 3) := by decide +kernel
theorem dX4_init_26 : decode cX4_init 26 = .ok (.newarray .int, 2) := by decide +kernel
theorem dX4_init_28 : decode cX4_init 28 = .ok (.putfield 16, 3) := by decide +kernel
theorem dX4_init_31 : decode cX4_init 31 = .ok (.aload_n 0, 1) := by decide +kernel
theorem dX4_init_32 : decode cX4_init 32 = .ok (.bipush 50, 2) := by decide +kernel
theorem dX4_init_34 : decode cX4_init 34 = .ok (.newarray .int, 2) := by decide +kernel
theorem dX4_init_36 : decode cX4_init 36 = .ok (.putfield 19, 3) := by decide +kernel
theorem dX4_init_39 : decode cX4_init 39 = .ok (.aload_n 0, 1) := by decide +kernel
theorem dX4_init_40 : decode cX4_init 40 = .ok (.bipush 48, 2) := by decide +kernel
theorem dX4_init_42 : decode cX4_init 42 = .ok (.newarray .int, 2) := by decide +kernel
theorem dX4_init_44 : decode cX4_init 44 = .ok (.putfield 22, 3) := by decide +kernel
theorem dX4_init_47 : decode cX4_init 47 = .ok (.aload_n 0, 1) := by decide +kernel
theorem dX4_init_48 : decode cX4_init 48 = .ok (.bipush 48, 2) := by decide +kernel
theorem dX4_init_50 : decode cX4_init 50 = .ok (.newarray .int, 2) := by decide +kernel
theorem dX4_init_52 : decode cX4_init 52 = .ok (.putfield 25, 3) := by decide +kernel
theorem dX4_init_55 : decode cX4_init 55 = .ok (.aload_n 0, 1) := by decide +kernel
theorem dX4_init_56 : decode cX4_init 56 = .ok (.bipush 48, 2) := by decide +kernel
theorem dX4_init_58 : decode cX4_init 58 = .ok (.newarray .int, 2) := by decide +kernel
theorem dX4_init_60 : decode cX4_init 60 = .ok (.putfield 28, 3) := by decide +kernel
theorem dX4_init_63 : decode cX4_init 63 = .ok (.aload_n 0, 1) := by decide +kernel
theorem dX4_init_64 : decode cX4_init 64 = .ok (.bipush 30, 2) := by decide +kernel
theorem dX4_init_66 : decode cX4_init 66 = .ok (.newarray .int, 2) := by decide +kernel
theorem dX4_init_68 : decode cX4_init 68 = .ok (.putfield 31, 3) := by decide +kernel
theorem dX4_init_71 : decode cX4_init 71 = .ok (.aload_n 0, 1) := by decide +kernel
theorem dX4_init_72 : decode cX4_init 72 = .ok (.invokevirtual 34, 3) := by decide +kernel
theorem dX4_init_75 : decode cX4_init 75 = .ok (.return_, 1) := by decide +kernel
theorem dX4_thrown_0 : decode cX4_thrown 0 = .ok (.aload_n 0, 1) := by decide +kernel
theorem dX4_thrown_1 : decode cX4_thrown 1 = .ok (.getfield 37, 3) := by decide +kernel
theorem dX4_thrown_4 : decode cX4_thrown 4 = .ok (.ireturn, 1) := by decide +kernel
theorem dX4_within_0 : decode cX4_within 0 = .ok (.iload_n 0, 1) := by decide +kernel
theorem dX4_within_1 : decode cX4_within 1 = .ok (.iload_n 1, 1) := by decide +kernel
theorem dX4_within_2 : decode cX4_within 2 = .ok (.if_icmp .lt 12, 3) := by decide +kernel
theorem dX4_within_5 : decode cX4_within 5 = .ok (.iload_n 0, 1) := by decide +kernel
theorem dX4_within_6 : decode cX4_within 6 = .ok (.iload_n 2, 1) := by decide +kernel
theorem dX4_within_7 : decode cX4_within 7 = .ok (.if_icmp .gt 7, 3) := by decide +kernel
theorem dX4_within_10 : decode cX4_within 10 = .ok (.iconst 1, 1) := by decide +kernel
theorem dX4_within_11 : decode cX4_within 11 = .ok (.goto 4, 3) := by decide +kernel
theorem dX4_within_14 : decode cX4_within 14 = .ok (.iconst 0, 1) := by decide +kernel
theorem dX4_within_15 : decode cX4_within 15 = .ok (.ireturn, 1) := by decide +kernel
theorem dX4_isName_0 : decode cX4_isName 0 = .ok (.iload_n 0, 1) := by decide +kernel
theorem dX4_isName_1 : decode cX4_isName 1 = .ok (.iconst 0, 1) := by decide +kernel
theorem dX4_isName_2 : decode cX4_isName 2 = .ok (.bipush 25, 2) := by decide +kernel
theorem dX4_isName_4 : decode cX4_isName 4 = .ok (.invokestatic 41, 3) := by decide +kernel
theorem dX4_isName_7 : decode cX4_isName 7 = .ok (.ireturn, 1) := by decide +kernel
theorem dX4_isScope_0 : decode cX4_isScope 0 = .ok (.iload_n 1, 1) := by decide +kernel
theorem dX4_isScope_1 : decode cX4_isScope 1 = .ok (.iconst 0, 1) := by decide +kernel
theorem dX4_isScope_2 : decode cX4_isScope 2 = .ok (.aload_n 0, 1) := by decide +kernel
theorem dX4_isScope_3 : decode cX4_isScope 3 = .ok (.getfield 7, 3) := by decide +kernel
theorem dX4_isScope_6 : decode cX4_isScope 6 = .ok (.iconst 0, 1) := by decide +kernel
theorem dX4_isScope_7 : decode cX4_isScope 7 = .ok (.iaload, 1) := by decide +kernel
theorem dX4_isScope_8 : decode cX4_isScope 8 = .ok (.iconst 1, 1) := by decide +kernel
theorem dX4_isScope_9 : decode cX4_isScope 9 = .ok (.isub, 1) := by decide +kernel
theorem dX4_isScope_10 : decode cX4_isScope 10 = .ok (.invokestatic 41, 3) := by decide +kernel
theorem dX4_isScope_13 : decode cX4_isScope 13 = .ok (.ireturn, 1) := by decide +kernel
theorem dX4_of_0 : decode cX4_of 0 = .ok (.aload_n 0, 1) := by decide +kernel
theorem dX4_of_1 : decode cX4_of 1 = .ok (.getfield 7, 3) := by decide +kernel
theorem dX4_of_4 : decode cX4_of 4 = .ok (.bipush 20, 2) := by decide +kernel
theorem dX4_of_6 : decode cX4_of 6 = .ok (.iconst 3, 1) := by decide +kernel
theorem dX4_of_7 : decode cX4_of 7 = .ok (.iload_n 1, 1) := by decide +kernel
theorem dX4_of_8 : decode cX4_of 8 = .ok (.imul, 1) := by decide +kernel
theorem dX4_of_9 : decode cX4_of 9 = .ok (.iadd, 1) := by decide +kernel
theorem dX4_of_10 : decode cX4_of 10 = .ok (.iload_n 2, 1) := by decide +kernel
theorem dX4_of_11 : decode cX4_of 11 = .ok (.iadd, 1) := by decide +kernel
theorem dX4_of_12 : decode cX4_of 12 = .ok (.iaload, 1) := by decide +kernel
theorem dX4_of_13 : decode cX4_of 13 = .ok (.ireturn, 1) := by decide +kernel
theorem dX4_at_0 : decode cX4_at 0 = .ok (.aload_n 0, 1) := by decide +kernel
theorem dX4_at_1 : decode cX4_at 1 = .ok (.getfield 7, 3) := by decide +kernel
theorem dX4_at_4 : decode cX4_at 4 = .ok (.bipush 110, 2) := by decide +kernel
theorem dX4_at_6 : decode cX4_at 6 = .ok (.bipush 6, 2) := by decide +kernel
theorem dX4_at_8 : decode cX4_at 8 = .ok (.iload_n 1, 1) := by decide +kernel
theorem dX4_at_9 : decode cX4_at 9 = .ok (.imul, 1) := by decide +kernel
theorem dX4_at_10 : decode cX4_at 10 = .ok (.iadd, 1) := by decide +kernel
theorem dX4_at_11 : decode cX4_at 11 = .ok (.iload_n 2, 1) := by decide +kernel
theorem dX4_at_12 : decode cX4_at 12 = .ok (.iadd, 1) := by decide +kernel
theorem dX4_at_13 : decode cX4_at 13 = .ok (.iaload, 1) := by decide +kernel
theorem dX4_at_14 : decode cX4_at 14 = .ok (.ireturn, 1) := by decide +kernel
theorem dX4_isSingle_0 : decode cX4_isSingle 0 = .ok (.aload_n 0, 1) := by decide +kernel
theorem dX4_isSingle_1 : decode cX4_isSingle 1 = .ok (.iload_n 1, 1) := by decide +kernel
theorem dX4_isSingle_2 : decode cX4_isSingle 2 = .ok (.iconst 2, 1) := by decide +kernel
theorem dX4_isSingle_3 : decode cX4_isSingle 3 = .ok (.invokevirtual 45, 3) := by decide +kernel
theorem dX4_isSingle_6 : decode cX4_isSingle 6 = .ok (.iconst (-1), 1) := by decide +kernel
theorem dX4_isSingle_7 : decode cX4_isSingle 7 = .ok (.if_icmp .eq 7, 3) := by decide +kernel
theorem dX4_isSingle_10 : decode cX4_isSingle 10 = .ok (.iconst 1, 1) := by decide +kernel
theorem dX4_isSingle_11 : decode cX4_isSingle 11 = .ok (.goto 4, 3) := by decide +kernel
theorem dX4_isSingle_14 : decode cX4_isSingle 14 = .ok (.iconst 0, 1) := by decide +kernel
theorem dX4_isSingle_15 : decode cX4_isSingle 15 = .ok (.ireturn, 1) := by decide +kernel
theorem dX4_fresh_0 : decode cX4_fresh 0 = .ok (.iconst 0, 1) := by decide +kernel
theorem dX4_fresh_1 : decode cX4_fresh 1 = .ok (.istore_n 1, 1) := by decide +kernel
theorem dX4_fresh_2 : decode cX4_fresh 2 = .ok (.iload_n 1, 1) := by decide +kernel
theorem dX4_fresh_3 : decode cX4_fresh 3 = .ok (.sipush 290, 3) := by decide +kernel
theorem dX4_fresh_6 : decode cX4_fresh 6 = .ok (.if_icmp .ge 16, 3) := by decide +kernel
theorem dX4_fresh_9 : decode cX4_fresh 9 = .ok (.aload_n 0, 1) := by decide +kernel
theorem dX4_fresh_10 : decode cX4_fresh 10 = .ok (.getfield 7, 3) := by decide +kernel
theorem dX4_fresh_13 : decode cX4_fresh 13 = .ok (.iload_n 1, 1) := by decide +kernel
theorem dX4_fresh_14 : decode cX4_fresh 14 = .ok (.iconst 0, 1) := by decide +kernel
theorem dX4_fresh_15 : decode cX4_fresh 15 = .ok (.iastore, 1) := by decide +kernel
theorem dX4_fresh_16 : decode cX4_fresh 16 = .ok (.iinc 1 1, 3) := by decide +kernel
theorem dX4_fresh_19 : decode cX4_fresh 19 = .ok (.goto (-17), 3) := by decide +kernel
theorem dX4_fresh_22 : decode cX4_fresh 22 = .ok (.aload_n 0, 1) := by decide +kernel
theorem dX4_fresh_23 : decode cX4_fresh 23 = .ok (.getfield 7, 3) := by decide +kernel
theorem dX4_fresh_26 : decode cX4_fresh 26 = .ok (.iconst 0, 1) := by decide +kernel
theorem dX4_fresh_27 : decode cX4_fresh 27 = .ok (.iconst 1, 1) := by decide +kernel
theorem dX4_fresh_28 : decode cX4_fresh 28 = .ok (.iastore, 1) := by decide +kernel
theorem dX4_fresh_29 : decode cX4_fresh 29 = .ok (.aload_n 0, 1) := by decide +kernel
theorem dX4_fresh_30 : decode cX4_fresh 30 = .ok (.getfield 7, 3) := by decide +kernel
theorem dX4_fresh_33 : decode cX4_fresh 33 = .ok (.iconst 4, 1) := by decide +kernel
theorem dX4_fresh_34 : decode cX4_fresh 34 = .ok (.iconst (-1), 1) := by decide +kernel
theorem dX4_fresh_35 : decode cX4_fresh 35 = .ok (.iastore, 1) := by decide +kernel
theorem dX4_fresh_36 : decode cX4_fresh 36 = .ok (.aload_n 0, 1) := by decide +kernel
theorem dX4_fresh_37 : decode cX4_fresh 37 = .ok (.iconst 0, 1) := by decide +kernel
theorem dX4_fresh_38 : decode cX4_fresh 38 = .ok (.putfield 49, 3) := by decide +kernel
theorem dX4_fresh_41 : decode cX4_fresh 41 = .ok (.return_, 1) := by decide +kernel
theorem dX4_bits_0 : decode cX4_bits 0 = .ok (.iconst 0, 1) := by decide +kernel
theorem dX4_bits_1 : decode cX4_bits 1 = .ok (.istore_n 1, 1) := by decide +kernel
theorem dX4_bits_2 : decode cX4_bits 2 = .ok (.iconst 0, 1) := by decide +kernel
theorem dX4_bits_3 : decode cX4_bits 3 = .ok (.istore_n 2, 1) := by decide +kernel
theorem dX4_bits_4 : decode cX4_bits 4 = .ok (.iload_n 2, 1) := by decide +kernel
theorem dX4_bits_5 : decode cX4_bits 5 = .ok (.bipush 30, 2) := by decide +kernel
theorem dX4_bits_7 : decode cX4_bits 7 = .ok (.if_icmp .ge 17, 3) := by decide +kernel
theorem dX4_bits_10 : decode cX4_bits 10 = .ok (.iload_n 1, 1) := by decide +kernel
theorem dX4_bits_11 : decode cX4_bits 11 = .ok (.iload_n 0, 1) := by decide +kernel
theorem dX4_bits_12 : decode cX4_bits 12 = .ok (.iload_n 2, 1) := by decide +kernel
theorem dX4_bits_13 : decode cX4_bits 13 = .ok (.ishr, 1) := by decide +kernel
theorem dX4_bits_14 : decode cX4_bits 14 = .ok (.iconst 1, 1) := by decide +kernel
theorem dX4_bits_15 : decode cX4_bits 15 = .ok (.iand, 1) := by decide +kernel
theorem dX4_bits_16 : decode cX4_bits 16 = .ok (.iadd, 1) := by decide +kernel
theorem dX4_bits_17 : decode cX4_bits 17 = .ok (.istore_n 1, 1) := by decide +kernel
theorem dX4_bits_18 : decode cX4_bits 18 = .ok (.iinc 2 1, 3) := by decide +kernel
theorem dX4_bits_21 : decode cX4_bits 21 = .ok (.goto (-17), 3) := by decide +kernel
theorem dX4_bits_24 : decode cX4_bits 24 = .ok (.iload_n 1, 1) := by decide +kernel
theorem dX4_bits_25 : decode cX4_bits 25 = .ok (.ireturn, 1) := by decide +kernel
theorem dX4_declaredIn_0 : decode cX4_declaredIn 0 = .ok (.iconst (-1), 1) := by decide +kernel
theorem dX4_declaredIn_1 : decode cX4_declaredIn 1 = .ok (.istore_n 3, 1) := by decide +kernel
theorem dX4_declaredIn_2 : decode cX4_declaredIn 2 = .ok (.iconst 0, 1) := by decide +kernel
theorem dX4_declaredIn_3 : decode cX4_declaredIn 3 = .ok (.istore 4, 2) := by decide +kernel
theorem dX4_declaredIn_5 : decode cX4_declaredIn 5 = .ok (.iload 4, 2) := by decide +kernel
theorem dX4_declaredIn_7 : decode cX4_declaredIn 7 = .ok (.aload_n 0, 1) := by decide +kernel
theorem dX4_declaredIn_8 : decode cX4_declaredIn 8 = .ok (.getfield 7, 3) := by decide +kernel
theorem dX4_declaredIn_11 : decode cX4_declaredIn 11 = .ok (.iconst 1, 1) := by decide +kernel
theorem dX4_declaredIn_12 : decode cX4_declaredIn 12 = .ok (.iaload, 1) := by decide +kernel
theorem dX4_declaredIn_13 : decode cX4_declaredIn 13 = .ok (.if_icmp .ge 38, 3) := by decide +kernel
theorem dX4_declaredIn_16 : decode cX4_declaredIn 16 = .ok (.aload_n 0, 1) := by decide +kernel
theorem dX4_declaredIn_17 : decode cX4_declaredIn 17 = .ok (.iload 4, 2) := by decide +kernel
theorem dX4_declaredIn_19 : decode cX4_declaredIn 19 = .ok (.iconst 0, 1) := by decide +kernel
theorem dX4_declaredIn_20 : decode cX4_declaredIn 20 = .ok (.invokevirtual 53, 3) := by decide +kernel
theorem dX4_declaredIn_23 : decode cX4_declaredIn 23 = .ok (.iload_n 1, 1) := by decide +kernel
theorem dX4_declaredIn_24 : decode cX4_declaredIn 24 = .ok (.if_icmp .ne 19, 3) := by decide +kernel
theorem dX4_declaredIn_27 : decode cX4_declaredIn 27 = .ok (.aload_n 0, 1) := by decide +kernel
theorem dX4_declaredIn_28 : decode cX4_declaredIn 28 = .ok (.iload 4, 2) := by decide +kernel
theorem dX4_declaredIn_30 : decode cX4_declaredIn 30 = .ok (.iconst 1, 1) := by decide +kernel
theorem dX4_declaredIn_31 : decode cX4_declaredIn 31 = .ok (.invokevirtual 53, 3) := by decide +kernel
theorem dX4_declaredIn_34 : decode cX4_declaredIn 34 = .ok (.iload_n 2, 1) := by decide +kernel
theorem dX4_declaredIn_35 : decode cX4_declaredIn 35 = .ok (.if_icmp .ne 8, 3) := by decide +kernel
theorem dX4_declaredIn_38 : decode cX4_declaredIn 38 = .ok (.iload 4, 2) := by decide +kernel
theorem dX4_declaredIn_40 : decode cX4_declaredIn 40 = .ok (.goto 4, 3) := by decide +kernel
theorem dX4_declaredIn_43 : decode cX4_declaredIn 43 = .ok (.iload_n 3, 1) := by decide +kernel
theorem dX4_declaredIn_44 : decode cX4_declaredIn 44 = .ok (.istore_n 3, 1) := by decide +kernel
theorem dX4_declaredIn_45 : decode cX4_declaredIn 45 = .ok (.iinc 4 1, 3) := by decide +kernel
theorem dX4_declaredIn_48 : decode cX4_declaredIn 48 = .ok (.goto (-43), 3) := by decide +kernel
theorem dX4_declaredIn_51 : decode cX4_declaredIn 51 = .ok (.iload_n 3, 1) := by decide +kernel
theorem dX4_declaredIn_52 : decode cX4_declaredIn 52 = .ok (.ireturn, 1) := by decide +kernel
theorem dX4_offer_0 : decode cX4_offer 0 = .ok (.aload_n 0, 1) := by decide +kernel
theorem dX4_offer_1 : decode cX4_offer 1 = .ok (.getfield 16, 3) := by decide +kernel
theorem dX4_offer_4 : decode cX4_offer 4 = .ok (.bipush 26, 2) := by decide +kernel
theorem dX4_offer_6 : decode cX4_offer 6 = .ok (.iload_n 1, 1) := by decide +kernel
theorem dX4_offer_7 : decode cX4_offer 7 = .ok (.imul, 1) := by decide +kernel
theorem dX4_offer_8 : decode cX4_offer 8 = .ok (.iload_n 2, 1) := by decide +kernel
theorem dX4_offer_9 : decode cX4_offer 9 = .ok (.iadd, 1) := by decide +kernel
theorem dX4_offer_10 : decode cX4_offer 10 = .ok (.iaload, 1) := by decide +kernel
theorem dX4_offer_11 : decode cX4_offer 11 = .ok (.ireturn, 1) := by decide +kernel
theorem dX4_brought_0 : decode cX4_brought 0 = .ok (.aload_n 0, 1) := by decide +kernel
theorem dX4_brought_1 : decode cX4_brought 1 = .ok (.iload_n 1, 1) := by decide +kernel
theorem dX4_brought_2 : decode cX4_brought 2 = .ok (.invokevirtual 56, 3) := by decide +kernel
theorem dX4_brought_5 : decode cX4_brought 5 = .ok (.ifCond .eq 34, 3) := by decide +kernel
theorem dX4_brought_8 : decode cX4_brought 8 = .ok (.iload_n 2, 1) := by decide +kernel
theorem dX4_brought_9 : decode cX4_brought 9 = .ok (.aload_n 0, 1) := by decide +kernel
theorem dX4_brought_10 : decode cX4_brought 10 = .ok (.iload_n 1, 1) := by decide +kernel
theorem dX4_brought_11 : decode cX4_brought 11 = .ok (.iconst 3, 1) := by decide +kernel
theorem dX4_brought_12 : decode cX4_brought 12 = .ok (.invokevirtual 45, 3) := by decide +kernel
theorem dX4_brought_15 : decode cX4_brought 15 = .ok (.if_icmp .ne 22, 3) := by decide +kernel
theorem dX4_brought_18 : decode cX4_brought 18 = .ok (.aload_n 0, 1) := by decide +kernel
theorem dX4_brought_19 : decode cX4_brought 19 = .ok (.aload_n 0, 1) := by decide +kernel
theorem dX4_brought_20 : decode cX4_brought 20 = .ok (.iload_n 1, 1) := by decide +kernel
theorem dX4_brought_21 : decode cX4_brought 21 = .ok (.iconst 1, 1) := by decide +kernel
theorem dX4_brought_22 : decode cX4_brought 22 = .ok (.invokevirtual 45, 3) := by decide +kernel
theorem dX4_brought_25 : decode cX4_brought 25 = .ok (.aload_n 0, 1) := by decide +kernel
theorem dX4_brought_26 : decode cX4_brought 26 = .ok (.iload_n 1, 1) := by decide +kernel
theorem dX4_brought_27 : decode cX4_brought 27 = .ok (.iconst 2, 1) := by decide +kernel
theorem dX4_brought_28 : decode cX4_brought 28 = .ok (.invokevirtual 45, 3) := by decide +kernel
theorem dX4_brought_31 : decode cX4_brought 31 = .ok (.invokevirtual 60, 3) := by decide +kernel
theorem dX4_brought_34 : decode cX4_brought 34 = .ok (.goto 4, 3) := by decide +kernel
theorem dX4_brought_37 : decode cX4_brought 37 = .ok (.iconst 0, 1) := by decide +kernel
theorem dX4_brought_38 : decode cX4_brought 38 = .ok (.ireturn, 1) := by decide +kernel
theorem dX4_brought_39 : decode cX4_brought 39 = .ok (.aload_n 0, 1) := by decide +kernel
theorem dX4_brought_40 : decode cX4_brought 40 = .ok (.iload_n 1, 1) := by decide +kernel
theorem dX4_brought_41 : decode cX4_brought 41 = .ok (.iconst 4, 1) := by decide +kernel
theorem dX4_brought_42 : decode cX4_brought 42 = .ok (.invokevirtual 45, 3) := by decide +kernel
theorem dX4_brought_45 : decode cX4_brought 45 = .ok (.iload_n 2, 1) := by decide +kernel
theorem dX4_brought_46 : decode cX4_brought 46 = .ok (.ishr, 1) := by decide +kernel
theorem dX4_brought_47 : decode cX4_brought 47 = .ok (.iconst 1, 1) := by decide +kernel
theorem dX4_brought_48 : decode cX4_brought 48 = .ok (.iand, 1) := by decide +kernel
theorem dX4_brought_49 : decode cX4_brought 49 = .ok (.iconst 1, 1) := by decide +kernel
theorem dX4_brought_50 : decode cX4_brought 50 = .ok (.if_icmp .ne 7, 3) := by decide +kernel
theorem dX4_brought_53 : decode cX4_brought 53 = .ok (.iconst 0, 1) := by decide +kernel
theorem dX4_brought_54 : decode cX4_brought 54 = .ok (.goto 14, 3) := by decide +kernel
theorem dX4_brought_57 : decode cX4_brought 57 = .ok (.aload_n 0, 1) := by decide +kernel
theorem dX4_brought_58 : decode cX4_brought 58 = .ok (.aload_n 0, 1) := by decide +kernel
theorem dX4_brought_59 : decode cX4_brought 59 = .ok (.iload_n 1, 1) := by decide +kernel
theorem dX4_brought_60 : decode cX4_brought 60 = .ok (.iconst 1, 1) := by decide +kernel
theorem dX4_brought_61 : decode cX4_brought 61 = .ok (.invokevirtual 45, 3) := by decide +kernel
theorem dX4_brought_64 : decode cX4_brought 64 = .ok (.iload_n 2, 1) := by decide +kernel
theorem dX4_brought_65 : decode cX4_brought 65 = .ok (.invokevirtual 60, 3) := by decide +kernel
theorem dX4_brought_68 : decode cX4_brought 68 = .ok (.ireturn, 1) := by decide +kernel
theorem dX4_passOn_0 : decode cX4_passOn 0 = .ok (.iconst 0, 1) := by decide +kernel
theorem dX4_passOn_1 : decode cX4_passOn 1 = .ok (.istore_n 1, 1) := by decide +kernel
theorem dX4_passOn_2 : decode cX4_passOn 2 = .ok (.iconst 0, 1) := by decide +kernel
theorem dX4_passOn_3 : decode cX4_passOn 3 = .ok (.istore_n 2, 1) := by decide +kernel
theorem dX4_passOn_4 : decode cX4_passOn 4 = .ok (.iload_n 2, 1) := by decide +kernel
theorem dX4_passOn_5 : decode cX4_passOn 5 = .ok (.aload_n 0, 1) := by decide +kernel
theorem dX4_passOn_6 : decode cX4_passOn 6 = .ok (.getfield 7, 3) := by decide +kernel
theorem dX4_passOn_9 : decode cX4_passOn 9 = .ok (.iconst 2, 1) := by decide +kernel
theorem dX4_passOn_10 : decode cX4_passOn 10 = .ok (.iaload, 1) := by decide +kernel
theorem dX4_passOn_11 : decode cX4_passOn 11 = .ok (.if_icmp .ge 112, 3) := by decide +kernel
theorem dX4_passOn_14 : decode cX4_passOn 14 = .ok (.iconst 0, 1) := by decide +kernel
theorem dX4_passOn_15 : decode cX4_passOn 15 = .ok (.istore_n 3, 1) := by decide +kernel
theorem dX4_passOn_16 : decode cX4_passOn 16 = .ok (.iload_n 3, 1) := by decide +kernel
theorem dX4_passOn_17 : decode cX4_passOn 17 = .ok (.bipush 26, 2) := by decide +kernel
theorem dX4_passOn_19 : decode cX4_passOn 19 = .ok (.if_icmp .ge 98, 3) := by decide +kernel
theorem dX4_passOn_22 : decode cX4_passOn 22 = .ok (.aload_n 0, 1) := by decide +kernel
theorem dX4_passOn_23 : decode cX4_passOn 23 = .ok (.iload_n 2, 1) := by decide +kernel
theorem dX4_passOn_24 : decode cX4_passOn 24 = .ok (.iconst 5, 1) := by decide +kernel
theorem dX4_passOn_25 : decode cX4_passOn 25 = .ok (.invokevirtual 45, 3) := by decide +kernel
theorem dX4_passOn_28 : decode cX4_passOn 28 = .ok (.iconst 1, 1) := by decide +kernel
theorem dX4_passOn_29 : decode cX4_passOn 29 = .ok (.if_icmp .ne 88, 3) := by decide +kernel
theorem dX4_passOn_32 : decode cX4_passOn 32 = .ok (.bipush 26, 2) := by decide +kernel
theorem dX4_passOn_34 : decode cX4_passOn 34 = .ok (.aload_n 0, 1) := by decide +kernel
theorem dX4_passOn_35 : decode cX4_passOn 35 = .ok (.iload_n 2, 1) := by decide +kernel
theorem dX4_passOn_36 : decode cX4_passOn 36 = .ok (.iconst 0, 1) := by decide +kernel
theorem dX4_passOn_37 : decode cX4_passOn 37 = .ok (.invokevirtual 45, 3) := by decide +kernel
theorem dX4_passOn_40 : decode cX4_passOn 40 = .ok (.imul, 1) := by decide +kernel
theorem dX4_passOn_41 : decode cX4_passOn 41 = .ok (.iload_n 3, 1) := by decide +kernel
theorem dX4_passOn_42 : decode cX4_passOn 42 = .ok (.iadd, 1) := by decide +kernel
theorem dX4_passOn_43 : decode cX4_passOn 43 = .ok (.istore 4, 2) := by decide +kernel
theorem dX4_passOn_45 : decode cX4_passOn 45 = .ok (.aload_n 0, 1) := by decide +kernel
theorem dX4_passOn_46 : decode cX4_passOn 46 = .ok (.getfield 16, 3) := by decide +kernel
theorem dX4_passOn_49 : decode cX4_passOn 49 = .ok (.iload 4, 2) := by decide +kernel
theorem dX4_passOn_51 : decode cX4_passOn 51 = .ok (.iaload, 1) := by decide +kernel
theorem dX4_passOn_52 : decode cX4_passOn 52 = .ok (.aload_n 0, 1) := by decide +kernel
theorem dX4_passOn_53 : decode cX4_passOn 53 = .ok (.aload_n 0, 1) := by decide +kernel
theorem dX4_passOn_54 : decode cX4_passOn 54 = .ok (.iload_n 2, 1) := by decide +kernel
theorem dX4_passOn_55 : decode cX4_passOn 55 = .ok (.iconst 0, 1) := by decide +kernel
theorem dX4_passOn_56 : decode cX4_passOn 56 = .ok (.invokevirtual 45, 3) := by decide +kernel
theorem dX4_passOn_59 : decode cX4_passOn 59 = .ok (.iload_n 3, 1) := by decide +kernel
theorem dX4_passOn_60 : decode cX4_passOn 60 = .ok (.invokevirtual 63, 3) := by decide +kernel
theorem dX4_passOn_63 : decode cX4_passOn 63 = .ok (.iconst (-1), 1) := by decide +kernel
theorem dX4_passOn_64 : decode cX4_passOn 64 = .ok (.if_icmp .ne 12, 3) := by decide +kernel
theorem dX4_passOn_67 : decode cX4_passOn 67 = .ok (.aload_n 0, 1) := by decide +kernel
theorem dX4_passOn_68 : decode cX4_passOn 68 = .ok (.iload_n 2, 1) := by decide +kernel
theorem dX4_passOn_69 : decode cX4_passOn 69 = .ok (.iload_n 3, 1) := by decide +kernel
theorem dX4_passOn_70 : decode cX4_passOn 70 = .ok (.invokevirtual 66, 3) := by decide +kernel
theorem dX4_passOn_73 : decode cX4_passOn 73 = .ok (.goto 4, 3) := by decide +kernel
theorem dX4_passOn_76 : decode cX4_passOn 76 = .ok (.iconst 0, 1) := by decide +kernel
theorem dX4_passOn_77 : decode cX4_passOn 77 = .ok (.ior, 1) := by decide +kernel
theorem dX4_passOn_78 : decode cX4_passOn 78 = .ok (.istore 5, 2) := by decide +kernel
theorem dX4_passOn_80 : decode cX4_passOn 80 = .ok (.iload_n 1, 1) := by decide +kernel
theorem dX4_passOn_81 : decode cX4_passOn 81 = .ok (.ifCond .ne 15, 3) := by decide +kernel
theorem dX4_passOn_84 : decode cX4_passOn 84 = .ok (.iload 5, 2) := by decide +kernel
theorem dX4_passOn_86 : decode cX4_passOn 86 = .ok (.aload_n 0, 1) := by decide +kernel
theorem dX4_passOn_87 : decode cX4_passOn 87 = .ok (.getfield 16, 3) := by decide +kernel
theorem dX4_passOn_90 : decode cX4_passOn 90 = .ok (.iload 4, 2) := by decide +kernel
theorem dX4_passOn_92 : decode cX4_passOn 92 = .ok (.iaload, 1) := by decide +kernel
theorem dX4_passOn_93 : decode cX4_passOn 93 = .ok (.if_icmp .eq 7, 3) := by decide +kernel
theorem dX4_passOn_96 : decode cX4_passOn 96 = .ok (.iconst 1, 1) := by decide +kernel
theorem dX4_passOn_97 : decode cX4_passOn 97 = .ok (.goto 4, 3) := by decide +kernel
theorem dX4_passOn_100 : decode cX4_passOn 100 = .ok (.iconst 0, 1) := by decide +kernel
theorem dX4_passOn_101 : decode cX4_passOn 101 = .ok (.istore_n 1, 1) := by decide +kernel
theorem dX4_passOn_102 : decode cX4_passOn 102 = .ok (.aload_n 0, 1) := by decide +kernel
theorem dX4_passOn_103 : decode cX4_passOn 103 = .ok (.getfield 16, 3) := by decide +kernel
theorem dX4_passOn_106 : decode cX4_passOn 106 = .ok (.iload 4, 2) := by decide +kernel
theorem dX4_passOn_108 : decode cX4_passOn 108 = .ok (.iload 5, 2) := by decide +kernel
theorem dX4_passOn_110 : decode cX4_passOn 110 = .ok (.iastore, 1) := by decide +kernel
theorem dX4_passOn_111 : decode cX4_passOn 111 = .ok (.iinc 3 1, 3) := by decide +kernel
theorem dX4_passOn_114 : decode cX4_passOn 114 = .ok (.goto (-98), 3) := by decide +kernel
theorem dX4_passOn_117 : decode cX4_passOn 117 = .ok (.iinc 2 1, 3) := by decide +kernel
theorem dX4_passOn_120 : decode cX4_passOn 120 = .ok (.goto (-116), 3) := by decide +kernel
theorem dX4_passOn_123 : decode cX4_passOn 123 = .ok (.iload_n 1, 1) := by decide +kernel
theorem dX4_passOn_124 : decode cX4_passOn 124 = .ok (.ireturn, 1) := by decide +kernel
theorem dX4_lay_0 : decode cX4_lay 0 = .ok (.aload_n 0, 1) := by decide +kernel
theorem dX4_lay_1 : decode cX4_lay 1 = .ok (.getfield 49, 3) := by decide +kernel
theorem dX4_lay_4 : decode cX4_lay 4 = .ok (.ifCond .eq 4, 3) := by decide +kernel
theorem dX4_lay_7 : decode cX4_lay 7 = .ok (.return_, 1) := by decide +kernel
theorem dX4_lay_8 : decode cX4_lay 8 = .ok (.iconst 0, 1) := by decide +kernel
theorem dX4_lay_9 : decode cX4_lay 9 = .ok (.istore_n 1, 1) := by decide +kernel
theorem dX4_lay_10 : decode cX4_lay 10 = .ok (.iload_n 1, 1) := by decide +kernel
theorem dX4_lay_11 : decode cX4_lay 11 = .ok (.sipush 416, 3) := by decide +kernel
theorem dX4_lay_14 : decode cX4_lay 14 = .ok (.if_icmp .ge 16, 3) := by decide +kernel
theorem dX4_lay_17 : decode cX4_lay 17 = .ok (.aload_n 0, 1) := by decide +kernel
theorem dX4_lay_18 : decode cX4_lay 18 = .ok (.getfield 16, 3) := by decide +kernel
theorem dX4_lay_21 : decode cX4_lay 21 = .ok (.iload_n 1, 1) := by decide +kernel
theorem dX4_lay_22 : decode cX4_lay 22 = .ok (.iconst 0, 1) := by decide +kernel
theorem dX4_lay_23 : decode cX4_lay 23 = .ok (.iastore, 1) := by decide +kernel
theorem dX4_lay_24 : decode cX4_lay 24 = .ok (.iinc 1 1, 3) := by decide +kernel
theorem dX4_lay_27 : decode cX4_lay 27 = .ok (.goto (-17), 3) := by decide +kernel
theorem dX4_lay_30 : decode cX4_lay 30 = .ok (.iconst 0, 1) := by decide +kernel
theorem dX4_lay_31 : decode cX4_lay 31 = .ok (.istore_n 1, 1) := by decide +kernel
theorem dX4_lay_32 : decode cX4_lay 32 = .ok (.iload_n 1, 1) := by decide +kernel
theorem dX4_lay_33 : decode cX4_lay 33 = .ok (.aload_n 0, 1) := by decide +kernel
theorem dX4_lay_34 : decode cX4_lay 34 = .ok (.getfield 7, 3) := by decide +kernel
theorem dX4_lay_37 : decode cX4_lay 37 = .ok (.iconst 1, 1) := by decide +kernel
theorem dX4_lay_38 : decode cX4_lay 38 = .ok (.iaload, 1) := by decide +kernel
theorem dX4_lay_39 : decode cX4_lay 39 = .ok (.if_icmp .ge 50, 3) := by decide +kernel
theorem dX4_lay_42 : decode cX4_lay 42 = .ok (.aload_n 0, 1) := by decide +kernel
theorem dX4_lay_43 : decode cX4_lay 43 = .ok (.getfield 16, 3) := by decide +kernel
theorem dX4_lay_46 : decode cX4_lay 46 = .ok (.bipush 26, 2) := by decide +kernel
theorem dX4_lay_48 : decode cX4_lay 48 = .ok (.aload_n 0, 1) := by decide +kernel
theorem dX4_lay_49 : decode cX4_lay 49 = .ok (.iload_n 1, 1) := by decide +kernel
theorem dX4_lay_50 : decode cX4_lay 50 = .ok (.iconst 0, 1) := by decide +kernel
theorem dX4_lay_51 : decode cX4_lay 51 = .ok (.invokevirtual 53, 3) := by decide +kernel
theorem dX4_lay_54 : decode cX4_lay 54 = .ok (.imul, 1) := by decide +kernel
theorem dX4_lay_55 : decode cX4_lay 55 = .ok (.aload_n 0, 1) := by decide +kernel
theorem dX4_lay_56 : decode cX4_lay 56 = .ok (.iload_n 1, 1) := by decide +kernel
theorem dX4_lay_57 : decode cX4_lay 57 = .ok (.iconst 1, 1) := by decide +kernel
theorem dX4_lay_58 : decode cX4_lay 58 = .ok (.invokevirtual 53, 3) := by decide +kernel
theorem dX4_lay_61 : decode cX4_lay 61 = .ok (.iadd, 1) := by decide +kernel
theorem dX4_lay_62 : decode cX4_lay 62 = .ok (.dup2, 1) := by decide +kernel
theorem dX4_lay_63 : decode cX4_lay 63 = .ok (.iaload, 1) := by decide +kernel
theorem dX4_lay_64 : decode cX4_lay 64 = .ok (.aload_n 0, 1) := by decide +kernel
theorem dX4_lay_65 : decode cX4_lay 65 = .ok (.iload_n 1, 1) := by decide +kernel
theorem dX4_lay_66 : decode cX4_lay 66 = .ok (.iconst 2, 1) := by decide +kernel
theorem dX4_lay_67 : decode cX4_lay 67 = .ok (.invokevirtual 53, 3) := by decide +kernel
theorem dX4_lay_70 : decode cX4_lay 70 = .ok (.iconst 1, 1) := by decide +kernel
theorem dX4_lay_71 : decode cX4_lay 71 = .ok (.if_icmp .ne 9, 3) := by decide +kernel
theorem dX4_lay_74 : decode cX4_lay 74 = .ok (.iconst 1, 1) := by decide +kernel
theorem dX4_lay_75 : decode cX4_lay 75 = .ok (.iload_n 1, 1) := by decide +kernel
theorem dX4_lay_76 : decode cX4_lay 76 = .ok (.ishl, 1) := by decide +kernel
theorem dX4_lay_77 : decode cX4_lay 77 = .ok (.goto 4, 3) := by decide +kernel
theorem dX4_lay_80 : decode cX4_lay 80 = .ok (.iconst 0, 1) := by decide +kernel
theorem dX4_lay_81 : decode cX4_lay 81 = .ok (.ior, 1) := by decide +kernel
theorem dX4_lay_82 : decode cX4_lay 82 = .ok (.iastore, 1) := by decide +kernel
theorem dX4_lay_83 : decode cX4_lay 83 = .ok (.iinc 1 1, 3) := by decide +kernel
theorem dX4_lay_86 : decode cX4_lay 86 = .ok (.goto (-54), 3) := by decide +kernel
theorem dX4_lay_89 : decode cX4_lay 89 = .ok (.iconst 1, 1) := by decide +kernel
theorem dX4_lay_90 : decode cX4_lay 90 = .ok (.istore_n 1, 1) := by decide +kernel
theorem dX4_lay_91 : decode cX4_lay 91 = .ok (.iload_n 1, 1) := by decide +kernel
theorem dX4_lay_92 : decode cX4_lay 92 = .ok (.ifCond .eq 11, 3) := by decide +kernel
theorem dX4_lay_95 : decode cX4_lay 95 = .ok (.aload_n 0, 1) := by decide +kernel
theorem dX4_lay_96 : decode cX4_lay 96 = .ok (.invokevirtual 69, 3) := by decide +kernel
theorem dX4_lay_99 : decode cX4_lay 99 = .ok (.istore_n 1, 1) := by decide +kernel
theorem dX4_lay_100 : decode cX4_lay 100 = .ok (.goto (-9), 3) := by decide +kernel
theorem dX4_lay_103 : decode cX4_lay 103 = .ok (.aload_n 0, 1) := by decide +kernel
theorem dX4_lay_104 : decode cX4_lay 104 = .ok (.iconst 1, 1) := by decide +kernel
theorem dX4_lay_105 : decode cX4_lay 105 = .ok (.putfield 49, 3) := by decide +kernel
theorem dX4_lay_108 : decode cX4_lay 108 = .ok (.return_, 1) := by decide +kernel
theorem dX4_layer_0 : decode cX4_layer 0 = .ok (.iload_n 3, 1) := by decide +kernel
theorem dX4_layer_1 : decode cX4_layer 1 = .ok (.ifCond .ne 26, 3) := by decide +kernel
theorem dX4_layer_4 : decode cX4_layer 4 = .ok (.aload_n 0, 1) := by decide +kernel
theorem dX4_layer_5 : decode cX4_layer 5 = .ok (.iload_n 1, 1) := by decide +kernel
theorem dX4_layer_6 : decode cX4_layer 6 = .ok (.iload_n 2, 1) := by decide +kernel
theorem dX4_layer_7 : decode cX4_layer 7 = .ok (.invokevirtual 63, 3) := by decide +kernel
theorem dX4_layer_10 : decode cX4_layer 10 = .ok (.istore 4, 2) := by decide +kernel
theorem dX4_layer_12 : decode cX4_layer 12 = .ok (.iload 4, 2) := by decide +kernel
theorem dX4_layer_14 : decode cX4_layer 14 = .ok (.iconst (-1), 1) := by decide +kernel
theorem dX4_layer_15 : decode cX4_layer 15 = .ok (.if_icmp .ne 7, 3) := by decide +kernel
theorem dX4_layer_18 : decode cX4_layer 18 = .ok (.iconst 0, 1) := by decide +kernel
theorem dX4_layer_19 : decode cX4_layer 19 = .ok (.goto 7, 3) := by decide +kernel
theorem dX4_layer_22 : decode cX4_layer 22 = .ok (.iconst 1, 1) := by decide +kernel
theorem dX4_layer_23 : decode cX4_layer 23 = .ok (.iload 4, 2) := by decide +kernel
theorem dX4_layer_25 : decode cX4_layer 25 = .ok (.ishl, 1) := by decide +kernel
theorem dX4_layer_26 : decode cX4_layer 26 = .ok (.ireturn, 1) := by decide +kernel
theorem dX4_layer_27 : decode cX4_layer 27 = .ok (.iconst 0, 1) := by decide +kernel
theorem dX4_layer_28 : decode cX4_layer 28 = .ok (.istore 4, 2) := by decide +kernel
theorem dX4_layer_30 : decode cX4_layer 30 = .ok (.iconst 0, 1) := by decide +kernel
theorem dX4_layer_31 : decode cX4_layer 31 = .ok (.istore 5, 2) := by decide +kernel
theorem dX4_layer_33 : decode cX4_layer 33 = .ok (.iload 5, 2) := by decide +kernel
theorem dX4_layer_35 : decode cX4_layer 35 = .ok (.aload_n 0, 1) := by decide +kernel
theorem dX4_layer_36 : decode cX4_layer 36 = .ok (.getfield 7, 3) := by decide +kernel
theorem dX4_layer_39 : decode cX4_layer 39 = .ok (.iconst 2, 1) := by decide +kernel
theorem dX4_layer_40 : decode cX4_layer 40 = .ok (.iaload, 1) := by decide +kernel
theorem dX4_layer_41 : decode cX4_layer 41 = .ok (.if_icmp .ge 67, 3) := by decide +kernel
theorem dX4_layer_44 : decode cX4_layer 44 = .ok (.aload_n 0, 1) := by decide +kernel
theorem dX4_layer_45 : decode cX4_layer 45 = .ok (.iload 5, 2) := by decide +kernel
theorem dX4_layer_47 : decode cX4_layer 47 = .ok (.iconst 0, 1) := by decide +kernel
theorem dX4_layer_48 : decode cX4_layer 48 = .ok (.invokevirtual 45, 3) := by decide +kernel
theorem dX4_layer_51 : decode cX4_layer 51 = .ok (.iload_n 1, 1) := by decide +kernel
theorem dX4_layer_52 : decode cX4_layer 52 = .ok (.if_icmp .ne 26, 3) := by decide +kernel
theorem dX4_layer_55 : decode cX4_layer 55 = .ok (.aload_n 0, 1) := by decide +kernel
theorem dX4_layer_56 : decode cX4_layer 56 = .ok (.iload 5, 2) := by decide +kernel
theorem dX4_layer_58 : decode cX4_layer 58 = .ok (.invokevirtual 56, 3) := by decide +kernel
theorem dX4_layer_61 : decode cX4_layer 61 = .ok (.iload_n 3, 1) := by decide +kernel
theorem dX4_layer_62 : decode cX4_layer 62 = .ok (.iconst 1, 1) := by decide +kernel
theorem dX4_layer_63 : decode cX4_layer 63 = .ok (.if_icmp .ne 7, 3) := by decide +kernel
theorem dX4_layer_66 : decode cX4_layer 66 = .ok (.iconst 1, 1) := by decide +kernel
theorem dX4_layer_67 : decode cX4_layer 67 = .ok (.goto 4, 3) := by decide +kernel
theorem dX4_layer_70 : decode cX4_layer 70 = .ok (.iconst 0, 1) := by decide +kernel
theorem dX4_layer_71 : decode cX4_layer 71 = .ok (.if_icmp .ne 7, 3) := by decide +kernel
theorem dX4_layer_74 : decode cX4_layer 74 = .ok (.iconst 1, 1) := by decide +kernel
theorem dX4_layer_75 : decode cX4_layer 75 = .ok (.goto 4, 3) := by decide +kernel
theorem dX4_layer_78 : decode cX4_layer 78 = .ok (.iconst 0, 1) := by decide +kernel
theorem dX4_layer_79 : decode cX4_layer 79 = .ok (.istore 6, 2) := by decide +kernel
theorem dX4_layer_81 : decode cX4_layer 81 = .ok (.iload 4, 2) := by decide +kernel
theorem dX4_layer_83 : decode cX4_layer 83 = .ok (.iload 6, 2) := by decide +kernel
theorem dX4_layer_85 : decode cX4_layer 85 = .ok (.ifCond .eq 13, 3) := by decide +kernel
theorem dX4_layer_88 : decode cX4_layer 88 = .ok (.aload_n 0, 1) := by decide +kernel
theorem dX4_layer_89 : decode cX4_layer 89 = .ok (.iload 5, 2) := by decide +kernel
theorem dX4_layer_91 : decode cX4_layer 91 = .ok (.iload_n 2, 1) := by decide +kernel
theorem dX4_layer_92 : decode cX4_layer 92 = .ok (.invokevirtual 66, 3) := by decide +kernel
theorem dX4_layer_95 : decode cX4_layer 95 = .ok (.goto 4, 3) := by decide +kernel
theorem dX4_layer_98 : decode cX4_layer 98 = .ok (.iconst 0, 1) := by decide +kernel
theorem dX4_layer_99 : decode cX4_layer 99 = .ok (.ior, 1) := by decide +kernel
theorem dX4_layer_100 : decode cX4_layer 100 = .ok (.istore 4, 2) := by decide +kernel
theorem dX4_layer_102 : decode cX4_layer 102 = .ok (.iinc 5 1, 3) := by decide +kernel
theorem dX4_layer_105 : decode cX4_layer 105 = .ok (.goto (-72), 3) := by decide +kernel
theorem dX4_layer_108 : decode cX4_layer 108 = .ok (.iload 4, 2) := by decide +kernel
theorem dX4_layer_110 : decode cX4_layer 110 = .ok (.ireturn, 1) := by decide +kernel
theorem dX4_layLayers_0 : decode cX4_layLayers 0 = .ok (.aload_n 0, 1) := by decide +kernel
theorem dX4_layLayers_1 : decode cX4_layLayers 1 = .ok (.invokevirtual 73, 3) := by decide +kernel
theorem dX4_layLayers_4 : decode cX4_layLayers 4 = .ok (.aload_n 0, 1) := by decide +kernel
theorem dX4_layLayers_5 : decode cX4_layLayers 5 = .ok (.iconst 0, 1) := by decide +kernel
theorem dX4_layLayers_6 : decode cX4_layLayers 6 = .ok (.putfield 76, 3) := by decide +kernel
theorem dX4_layLayers_9 : decode cX4_layLayers 9 = .ok (.iconst 0, 1) := by decide +kernel
theorem dX4_layLayers_10 : decode cX4_layLayers 10 = .ok (.istore_n 3, 1) := by decide +kernel
theorem dX4_layLayers_11 : decode cX4_layLayers 11 = .ok (.iload_n 1, 1) := by decide +kernel
theorem dX4_layLayers_12 : decode cX4_layLayers 12 = .ok (.istore 4, 2) := by decide +kernel
theorem dX4_layLayers_14 : decode cX4_layLayers 14 = .ok (.iload 4, 2) := by decide +kernel
theorem dX4_layLayers_16 : decode cX4_layLayers 16 = .ok (.iconst (-1), 1) := by decide +kernel
theorem dX4_layLayers_17 : decode cX4_layLayers 17 = .ok (.if_icmp .eq 97, 3) := by decide +kernel
theorem dX4_layLayers_20 : decode cX4_layLayers 20 = .ok (.iconst 0, 1) := by decide +kernel
theorem dX4_layLayers_21 : decode cX4_layLayers 21 = .ok (.istore 5, 2) := by decide +kernel
theorem dX4_layLayers_23 : decode cX4_layLayers 23 = .ok (.iload 5, 2) := by decide +kernel
theorem dX4_layLayers_25 : decode cX4_layLayers 25 = .ok (.iconst 3, 1) := by decide +kernel
theorem dX4_layLayers_26 : decode cX4_layLayers 26 = .ok (.if_icmp .ge 71, 3) := by decide +kernel
theorem dX4_layLayers_29 : decode cX4_layLayers 29 = .ok (.aload_n 0, 1) := by decide +kernel
theorem dX4_layLayers_30 : decode cX4_layLayers 30 = .ok (.iload 4, 2) := by decide +kernel
theorem dX4_layLayers_32 : decode cX4_layLayers 32 = .ok (.iload_n 2, 1) := by decide +kernel
theorem dX4_layLayers_33 : decode cX4_layLayers 33 = .ok (.iload 5, 2) := by decide +kernel
theorem dX4_layLayers_35 : decode cX4_layLayers 35 = .ok (.invokevirtual 79, 3) := by decide +kernel
theorem dX4_layLayers_38 : decode cX4_layLayers 38 = .ok (.istore 6, 2) := by decide +kernel
theorem dX4_layLayers_40 : decode cX4_layLayers 40 = .ok (.aload_n 0, 1) := by decide +kernel
theorem dX4_layLayers_41 : decode cX4_layLayers 41 = .ok (.getfield 22, 3) := by decide +kernel
theorem dX4_layLayers_44 : decode cX4_layLayers 44 = .ok (.aload_n 0, 1) := by decide +kernel
theorem dX4_layLayers_45 : decode cX4_layLayers 45 = .ok (.getfield 76, 3) := by decide +kernel
theorem dX4_layLayers_48 : decode cX4_layLayers 48 = .ok (.iload 6, 2) := by decide +kernel
theorem dX4_layLayers_50 : decode cX4_layLayers 50 = .ok (.iastore, 1) := by decide +kernel
theorem dX4_layLayers_51 : decode cX4_layLayers 51 = .ok (.aload_n 0, 1) := by decide +kernel
theorem dX4_layLayers_52 : decode cX4_layLayers 52 = .ok (.getfield 25, 3) := by decide +kernel
theorem dX4_layLayers_55 : decode cX4_layLayers 55 = .ok (.aload_n 0, 1) := by decide +kernel
theorem dX4_layLayers_56 : decode cX4_layLayers 56 = .ok (.getfield 76, 3) := by decide +kernel
theorem dX4_layLayers_59 : decode cX4_layLayers 59 = .ok (.iload 5, 2) := by decide +kernel
theorem dX4_layLayers_61 : decode cX4_layLayers 61 = .ok (.iastore, 1) := by decide +kernel
theorem dX4_layLayers_62 : decode cX4_layLayers 62 = .ok (.aload_n 0, 1) := by decide +kernel
theorem dX4_layLayers_63 : decode cX4_layLayers 63 = .ok (.getfield 28, 3) := by decide +kernel
theorem dX4_layLayers_66 : decode cX4_layLayers 66 = .ok (.aload_n 0, 1) := by decide +kernel
theorem dX4_layLayers_67 : decode cX4_layLayers 67 = .ok (.getfield 76, 3) := by decide +kernel
theorem dX4_layLayers_70 : decode cX4_layLayers 70 = .ok (.iload_n 3, 1) := by decide +kernel
theorem dX4_layLayers_71 : decode cX4_layLayers 71 = .ok (.iastore, 1) := by decide +kernel
theorem dX4_layLayers_72 : decode cX4_layLayers 72 = .ok (.aload_n 0, 1) := by decide +kernel
theorem dX4_layLayers_73 : decode cX4_layLayers 73 = .ok (.dup, 1) := by decide +kernel
theorem dX4_layLayers_74 : decode cX4_layLayers 74 = .ok (.getfield 76, 3) := by decide +kernel
theorem dX4_layLayers_77 : decode cX4_layLayers 77 = .ok (.iload 6, 2) := by decide +kernel
theorem dX4_layLayers_79 : decode cX4_layLayers 79 = .ok (.ifCond .ne 7, 3) := by decide +kernel
theorem dX4_layLayers_82 : decode cX4_layLayers 82 = .ok (.iconst 0, 1) := by decide +kernel
theorem dX4_layLayers_83 : decode cX4_layLayers 83 = .ok (.goto 4, 3) := by decide +kernel
theorem dX4_layLayers_86 : decode cX4_layLayers 86 = .ok (.iconst 1, 1) := by decide +kernel
theorem dX4_layLayers_87 : decode cX4_layLayers 87 = .ok (.iadd, 1) := by decide +kernel
theorem dX4_layLayers_88 : decode cX4_layLayers 88 = .ok (.putfield 76, 3) := by decide +kernel
theorem dX4_layLayers_91 : decode cX4_layLayers 91 = .ok (.iinc 5 1, 3) := by decide +kernel
theorem dX4_layLayers_94 : decode cX4_layLayers 94 = .ok (.goto (-71), 3) := by decide +kernel
theorem dX4_layLayers_97 : decode cX4_layLayers 97 = .ok (.iinc 3 1, 3) := by decide +kernel
theorem dX4_layLayers_100 : decode cX4_layLayers 100 = .ok (.aload_n 0, 1) := by decide +kernel
theorem dX4_layLayers_101 : decode cX4_layLayers 101 = .ok (.getfield 7, 3) := by decide +kernel
theorem dX4_layLayers_104 : decode cX4_layLayers 104 = .ok (.iconst 4, 1) := by decide +kernel
theorem dX4_layLayers_105 : decode cX4_layLayers 105 = .ok (.iload 4, 2) := by decide +kernel
theorem dX4_layLayers_107 : decode cX4_layLayers 107 = .ok (.iadd, 1) := by decide +kernel
theorem dX4_layLayers_108 : decode cX4_layLayers 108 = .ok (.iaload, 1) := by decide +kernel
theorem dX4_layLayers_109 : decode cX4_layLayers 109 = .ok (.istore 4, 2) := by decide +kernel
theorem dX4_layLayers_111 : decode cX4_layLayers 111 = .ok (.goto (-97), 3) := by decide +kernel
theorem dX4_layLayers_114 : decode cX4_layLayers 114 = .ok (.return_, 1) := by decide +kernel
theorem dX4_outcome_0 : decode cX4_outcome 0 = .ok (.aload_n 0, 1) := by decide +kernel
theorem dX4_outcome_1 : decode cX4_outcome 1 = .ok (.iload_n 1, 1) := by decide +kernel
theorem dX4_outcome_2 : decode cX4_outcome 2 = .ok (.iload_n 2, 1) := by decide +kernel
theorem dX4_outcome_3 : decode cX4_outcome 3 = .ok (.invokevirtual 83, 3) := by decide +kernel
theorem dX4_outcome_6 : decode cX4_outcome 6 = .ok (.aload_n 0, 1) := by decide +kernel
theorem dX4_outcome_7 : decode cX4_outcome 7 = .ok (.getfield 76, 3) := by decide +kernel
theorem dX4_outcome_10 : decode cX4_outcome 10 = .ok (.ifCond .ne 7, 3) := by decide +kernel
theorem dX4_outcome_13 : decode cX4_outcome 13 = .ok (.iconst 0, 1) := by decide +kernel
theorem dX4_outcome_14 : decode cX4_outcome 14 = .ok (.goto 9, 3) := by decide +kernel
theorem dX4_outcome_17 : decode cX4_outcome 17 = .ok (.aload_n 0, 1) := by decide +kernel
theorem dX4_outcome_18 : decode cX4_outcome 18 = .ok (.getfield 22, 3) := by decide +kernel
theorem dX4_outcome_21 : decode cX4_outcome 21 = .ok (.iconst 0, 1) := by decide +kernel
theorem dX4_outcome_22 : decode cX4_outcome 22 = .ok (.iaload, 1) := by decide +kernel
theorem dX4_outcome_23 : decode cX4_outcome 23 = .ok (.ireturn, 1) := by decide +kernel
theorem dX4_lowest_0 : decode cX4_lowest 0 = .ok (.iconst 0, 1) := by decide +kernel
theorem dX4_lowest_1 : decode cX4_lowest 1 = .ok (.istore_n 1, 1) := by decide +kernel
theorem dX4_lowest_2 : decode cX4_lowest 2 = .ok (.iload_n 0, 1) := by decide +kernel
theorem dX4_lowest_3 : decode cX4_lowest 3 = .ok (.iload_n 1, 1) := by decide +kernel
theorem dX4_lowest_4 : decode cX4_lowest 4 = .ok (.ishr, 1) := by decide +kernel
theorem dX4_lowest_5 : decode cX4_lowest 5 = .ok (.iconst 1, 1) := by decide +kernel
theorem dX4_lowest_6 : decode cX4_lowest 6 = .ok (.iand, 1) := by decide +kernel
theorem dX4_lowest_7 : decode cX4_lowest 7 = .ok (.ifCond .ne 9, 3) := by decide +kernel
theorem dX4_lowest_10 : decode cX4_lowest 10 = .ok (.iinc 1 1, 3) := by decide +kernel
theorem dX4_lowest_13 : decode cX4_lowest 13 = .ok (.goto (-11), 3) := by decide +kernel
theorem dX4_lowest_16 : decode cX4_lowest 16 = .ok (.iload_n 1, 1) := by decide +kernel
theorem dX4_lowest_17 : decode cX4_lowest 17 = .ok (.ireturn, 1) := by decide +kernel
theorem dX4_only_0 : decode cX4_only 0 = .ok (.iload_n 0, 1) := by decide +kernel
theorem dX4_only_1 : decode cX4_only 1 = .ok (.invokestatic 87, 3) := by decide +kernel
theorem dX4_only_4 : decode cX4_only 4 = .ok (.iconst 1, 1) := by decide +kernel
theorem dX4_only_5 : decode cX4_only 5 = .ok (.if_icmp .ne 10, 3) := by decide +kernel
theorem dX4_only_8 : decode cX4_only 8 = .ok (.iload_n 0, 1) := by decide +kernel
theorem dX4_only_9 : decode cX4_only 9 = .ok (.invokestatic 91, 3) := by decide +kernel
theorem dX4_only_12 : decode cX4_only 12 = .ok (.goto 4, 3) := by decide +kernel
theorem dX4_only_15 : decode cX4_only 15 = .ok (.iconst (-1), 1) := by decide +kernel
theorem dX4_only_16 : decode cX4_only 16 = .ok (.ireturn, 1) := by decide +kernel
theorem dX4_useScope_0 : decode cX4_useScope 0 = .ok (.aload_n 0, 1) := by decide +kernel
theorem dX4_useScope_1 : decode cX4_useScope 1 = .ok (.getfield 7, 3) := by decide +kernel
theorem dX4_useScope_4 : decode cX4_useScope 4 = .ok (.sipush 230, 3) := by decide +kernel
theorem dX4_useScope_7 : decode cX4_useScope 7 = .ok (.iconst 2, 1) := by decide +kernel
theorem dX4_useScope_8 : decode cX4_useScope 8 = .ok (.iload_n 1, 1) := by decide +kernel
theorem dX4_useScope_9 : decode cX4_useScope 9 = .ok (.imul, 1) := by decide +kernel
theorem dX4_useScope_10 : decode cX4_useScope 10 = .ok (.iadd, 1) := by decide +kernel
theorem dX4_useScope_11 : decode cX4_useScope 11 = .ok (.iaload, 1) := by decide +kernel
theorem dX4_useScope_12 : decode cX4_useScope 12 = .ok (.ireturn, 1) := by decide +kernel
theorem dX4_useName_0 : decode cX4_useName 0 = .ok (.aload_n 0, 1) := by decide +kernel
theorem dX4_useName_1 : decode cX4_useName 1 = .ok (.getfield 7, 3) := by decide +kernel
theorem dX4_useName_4 : decode cX4_useName 4 = .ok (.sipush 230, 3) := by decide +kernel
theorem dX4_useName_7 : decode cX4_useName 7 = .ok (.iconst 2, 1) := by decide +kernel
theorem dX4_useName_8 : decode cX4_useName 8 = .ok (.iload_n 1, 1) := by decide +kernel
theorem dX4_useName_9 : decode cX4_useName 9 = .ok (.imul, 1) := by decide +kernel
theorem dX4_useName_10 : decode cX4_useName 10 = .ok (.iadd, 1) := by decide +kernel
theorem dX4_useName_11 : decode cX4_useName 11 = .ok (.iconst 1, 1) := by decide +kernel
theorem dX4_useName_12 : decode cX4_useName 12 = .ok (.iadd, 1) := by decide +kernel
theorem dX4_useName_13 : decode cX4_useName 13 = .ok (.iaload, 1) := by decide +kernel
theorem dX4_useName_14 : decode cX4_useName 14 = .ok (.ireturn, 1) := by decide +kernel
theorem dX4_outcomeOf_0 : decode cX4_outcomeOf 0 = .ok (.aload_n 0, 1) := by decide +kernel
theorem dX4_outcomeOf_1 : decode cX4_outcomeOf 1 = .ok (.aload_n 0, 1) := by decide +kernel
theorem dX4_outcomeOf_2 : decode cX4_outcomeOf 2 = .ok (.iload_n 1, 1) := by decide +kernel
theorem dX4_outcomeOf_3 : decode cX4_outcomeOf 3 = .ok (.invokevirtual 94, 3) := by decide +kernel
theorem dX4_outcomeOf_6 : decode cX4_outcomeOf 6 = .ok (.aload_n 0, 1) := by decide +kernel
theorem dX4_outcomeOf_7 : decode cX4_outcomeOf 7 = .ok (.iload_n 1, 1) := by decide +kernel
theorem dX4_outcomeOf_8 : decode cX4_outcomeOf 8 = .ok (.invokevirtual 97, 3) := by decide +kernel
theorem dX4_outcomeOf_11 : decode cX4_outcomeOf 11 = .ok (.invokevirtual 100, 3) := by decide +kernel
theorem dX4_outcomeOf_14 : decode cX4_outcomeOf 14 = .ok (.ireturn, 1) := by decide +kernel
theorem dX4_begin_0 : decode cX4_begin 0 = .ok (.aload_n 0, 1) := by decide +kernel
theorem dX4_begin_1 : decode cX4_begin 1 = .ok (.iconst 0, 1) := by decide +kernel
theorem dX4_begin_2 : decode cX4_begin 2 = .ok (.putfield 37, 3) := by decide +kernel
theorem dX4_begin_5 : decode cX4_begin 5 = .ok (.aload_n 0, 1) := by decide +kernel
theorem dX4_begin_6 : decode cX4_begin 6 = .ok (.getfield 7, 3) := by decide +kernel
theorem dX4_begin_9 : decode cX4_begin 9 = .ok (.iconst 0, 1) := by decide +kernel
theorem dX4_begin_10 : decode cX4_begin 10 = .ok (.iaload, 1) := by decide +kernel
theorem dX4_begin_11 : decode cX4_begin 11 = .ok (.istore_n 1, 1) := by decide +kernel
theorem dX4_begin_12 : decode cX4_begin 12 = .ok (.aload_n 0, 1) := by decide +kernel
theorem dX4_begin_13 : decode cX4_begin 13 = .ok (.invokevirtual 34, 3) := by decide +kernel
theorem dX4_begin_16 : decode cX4_begin 16 = .ok (.iload_n 1, 1) := by decide +kernel
theorem dX4_begin_17 : decode cX4_begin 17 = .ok (.ireturn, 1) := by decide +kernel
theorem dX4_addScope_0 : decode cX4_addScope 0 = .ok (.aload_n 0, 1) := by decide +kernel
theorem dX4_addScope_1 : decode cX4_addScope 1 = .ok (.aload_n 0, 1) := by decide +kernel
theorem dX4_addScope_2 : decode cX4_addScope 2 = .ok (.iload_n 1, 1) := by decide +kernel
theorem dX4_addScope_3 : decode cX4_addScope 3 = .ok (.invokevirtual 103, 3) := by decide +kernel
theorem dX4_addScope_6 : decode cX4_addScope 6 = .ok (.ifCond .ne 7, 3) := by decide +kernel
theorem dX4_addScope_9 : decode cX4_addScope 9 = .ok (.iconst 1, 1) := by decide +kernel
theorem dX4_addScope_10 : decode cX4_addScope 10 = .ok (.goto 19, 3) := by decide +kernel
theorem dX4_addScope_13 : decode cX4_addScope 13 = .ok (.aload_n 0, 1) := by decide +kernel
theorem dX4_addScope_14 : decode cX4_addScope 14 = .ok (.getfield 7, 3) := by decide +kernel
theorem dX4_addScope_17 : decode cX4_addScope 17 = .ok (.iconst 0, 1) := by decide +kernel
theorem dX4_addScope_18 : decode cX4_addScope 18 = .ok (.iaload, 1) := by decide +kernel
theorem dX4_addScope_19 : decode cX4_addScope 19 = .ok (.bipush 16, 2) := by decide +kernel
theorem dX4_addScope_21 : decode cX4_addScope 21 = .ok (.if_icmp .ne 7, 3) := by decide +kernel
theorem dX4_addScope_24 : decode cX4_addScope 24 = .ok (.iconst 2, 1) := by decide +kernel
theorem dX4_addScope_25 : decode cX4_addScope 25 = .ok (.goto 4, 3) := by decide +kernel
theorem dX4_addScope_28 : decode cX4_addScope 28 = .ok (.iconst 0, 1) := by decide +kernel
theorem dX4_addScope_29 : decode cX4_addScope 29 = .ok (.putfield 37, 3) := by decide +kernel
theorem dX4_addScope_32 : decode cX4_addScope 32 = .ok (.aload_n 0, 1) := by decide +kernel
theorem dX4_addScope_33 : decode cX4_addScope 33 = .ok (.getfield 37, 3) := by decide +kernel
theorem dX4_addScope_36 : decode cX4_addScope 36 = .ok (.ifCond .le 5, 3) := by decide +kernel
theorem dX4_addScope_39 : decode cX4_addScope 39 = .ok (.iconst 0, 1) := by decide +kernel
theorem dX4_addScope_40 : decode cX4_addScope 40 = .ok (.ireturn, 1) := by decide +kernel
theorem dX4_addScope_41 : decode cX4_addScope 41 = .ok (.aload_n 0, 1) := by decide +kernel
theorem dX4_addScope_42 : decode cX4_addScope 42 = .ok (.getfield 7, 3) := by decide +kernel
theorem dX4_addScope_45 : decode cX4_addScope 45 = .ok (.iconst 4, 1) := by decide +kernel
theorem dX4_addScope_46 : decode cX4_addScope 46 = .ok (.aload_n 0, 1) := by decide +kernel
theorem dX4_addScope_47 : decode cX4_addScope 47 = .ok (.getfield 7, 3) := by decide +kernel
theorem dX4_addScope_50 : decode cX4_addScope 50 = .ok (.iconst 0, 1) := by decide +kernel
theorem dX4_addScope_51 : decode cX4_addScope 51 = .ok (.iaload, 1) := by decide +kernel
theorem dX4_addScope_52 : decode cX4_addScope 52 = .ok (.iadd, 1) := by decide +kernel
theorem dX4_addScope_53 : decode cX4_addScope 53 = .ok (.iload_n 1, 1) := by decide +kernel
theorem dX4_addScope_54 : decode cX4_addScope 54 = .ok (.iastore, 1) := by decide +kernel
theorem dX4_addScope_55 : decode cX4_addScope 55 = .ok (.aload_n 0, 1) := by decide +kernel
theorem dX4_addScope_56 : decode cX4_addScope 56 = .ok (.getfield 7, 3) := by decide +kernel
theorem dX4_addScope_59 : decode cX4_addScope 59 = .ok (.iconst 0, 1) := by decide +kernel
theorem dX4_addScope_60 : decode cX4_addScope 60 = .ok (.dup2, 1) := by decide +kernel
theorem dX4_addScope_61 : decode cX4_addScope 61 = .ok (.iaload, 1) := by decide +kernel
theorem dX4_addScope_62 : decode cX4_addScope 62 = .ok (.iconst 1, 1) := by decide +kernel
theorem dX4_addScope_63 : decode cX4_addScope 63 = .ok (.iadd, 1) := by decide +kernel
theorem dX4_addScope_64 : decode cX4_addScope 64 = .ok (.iastore, 1) := by decide +kernel
theorem dX4_addScope_65 : decode cX4_addScope 65 = .ok (.aload_n 0, 1) := by decide +kernel
theorem dX4_addScope_66 : decode cX4_addScope 66 = .ok (.iconst 0, 1) := by decide +kernel
theorem dX4_addScope_67 : decode cX4_addScope 67 = .ok (.putfield 49, 3) := by decide +kernel
theorem dX4_addScope_70 : decode cX4_addScope 70 = .ok (.aload_n 0, 1) := by decide +kernel
theorem dX4_addScope_71 : decode cX4_addScope 71 = .ok (.getfield 7, 3) := by decide +kernel
theorem dX4_addScope_74 : decode cX4_addScope 74 = .ok (.iconst 0, 1) := by decide +kernel
theorem dX4_addScope_75 : decode cX4_addScope 75 = .ok (.iaload, 1) := by decide +kernel
theorem dX4_addScope_76 : decode cX4_addScope 76 = .ok (.iconst 1, 1) := by decide +kernel
theorem dX4_addScope_77 : decode cX4_addScope 77 = .ok (.isub, 1) := by decide +kernel
theorem dX4_addScope_78 : decode cX4_addScope 78 = .ok (.ireturn, 1) := by decide +kernel
theorem dX4_declare_0 : decode cX4_declare 0 = .ok (.aload_n 0, 1) := by decide +kernel
theorem dX4_declare_1 : decode cX4_declare 1 = .ok (.aload_n 0, 1) := by decide +kernel
theorem dX4_declare_2 : decode cX4_declare 2 = .ok (.iload_n 1, 1) := by decide +kernel
theorem dX4_declare_3 : decode cX4_declare 3 = .ok (.invokevirtual 103, 3) := by decide +kernel
theorem dX4_declare_6 : decode cX4_declare 6 = .ok (.ifCond .ne 7, 3) := by decide +kernel
theorem dX4_declare_9 : decode cX4_declare 9 = .ok (.iconst 1, 1) := by decide +kernel
theorem dX4_declare_10 : decode cX4_declare 10 = .ok (.goto 40, 3) := by decide +kernel
theorem dX4_declare_13 : decode cX4_declare 13 = .ok (.iload_n 2, 1) := by decide +kernel
theorem dX4_declare_14 : decode cX4_declare 14 = .ok (.invokestatic 106, 3) := by decide +kernel
theorem dX4_declare_17 : decode cX4_declare 17 = .ok (.ifCond .eq 13, 3) := by decide +kernel
theorem dX4_declare_20 : decode cX4_declare 20 = .ok (.aload_n 0, 1) := by decide +kernel
theorem dX4_declare_21 : decode cX4_declare 21 = .ok (.iload_n 1, 1) := by decide +kernel
theorem dX4_declare_22 : decode cX4_declare 22 = .ok (.iload_n 2, 1) := by decide +kernel
theorem dX4_declare_23 : decode cX4_declare 23 = .ok (.invokevirtual 63, 3) := by decide +kernel
theorem dX4_declare_26 : decode cX4_declare 26 = .ok (.iconst (-1), 1) := by decide +kernel
theorem dX4_declare_27 : decode cX4_declare 27 = .ok (.if_icmp .eq 7, 3) := by decide +kernel
theorem dX4_declare_30 : decode cX4_declare 30 = .ok (.iconst 2, 1) := by decide +kernel
theorem dX4_declare_31 : decode cX4_declare 31 = .ok (.goto 19, 3) := by decide +kernel
theorem dX4_declare_34 : decode cX4_declare 34 = .ok (.aload_n 0, 1) := by decide +kernel
theorem dX4_declare_35 : decode cX4_declare 35 = .ok (.getfield 7, 3) := by decide +kernel
theorem dX4_declare_38 : decode cX4_declare 38 = .ok (.iconst 1, 1) := by decide +kernel
theorem dX4_declare_39 : decode cX4_declare 39 = .ok (.iaload, 1) := by decide +kernel
theorem dX4_declare_40 : decode cX4_declare 40 = .ok (.bipush 30, 2) := by decide +kernel
theorem dX4_declare_42 : decode cX4_declare 42 = .ok (.if_icmp .ne 7, 3) := by decide +kernel
theorem dX4_declare_45 : decode cX4_declare 45 = .ok (.iconst 3, 1) := by decide +kernel
theorem dX4_declare_46 : decode cX4_declare 46 = .ok (.goto 4, 3) := by decide +kernel
theorem dX4_declare_49 : decode cX4_declare 49 = .ok (.iconst 0, 1) := by decide +kernel
theorem dX4_declare_50 : decode cX4_declare 50 = .ok (.putfield 37, 3) := by decide +kernel
theorem dX4_declare_53 : decode cX4_declare 53 = .ok (.aload_n 0, 1) := by decide +kernel
theorem dX4_declare_54 : decode cX4_declare 54 = .ok (.getfield 37, 3) := by decide +kernel
theorem dX4_declare_57 : decode cX4_declare 57 = .ok (.ifCond .le 5, 3) := by decide +kernel
theorem dX4_declare_60 : decode cX4_declare 60 = .ok (.iconst 0, 1) := by decide +kernel
theorem dX4_declare_61 : decode cX4_declare 61 = .ok (.ireturn, 1) := by decide +kernel
theorem dX4_declare_62 : decode cX4_declare 62 = .ok (.aload_n 0, 1) := by decide +kernel
theorem dX4_declare_63 : decode cX4_declare 63 = .ok (.getfield 7, 3) := by decide +kernel
theorem dX4_declare_66 : decode cX4_declare 66 = .ok (.iconst 1, 1) := by decide +kernel
theorem dX4_declare_67 : decode cX4_declare 67 = .ok (.iaload, 1) := by decide +kernel
theorem dX4_declare_68 : decode cX4_declare 68 = .ok (.istore 4, 2) := by decide +kernel
theorem dX4_declare_70 : decode cX4_declare 70 = .ok (.aload_n 0, 1) := by decide +kernel
theorem dX4_declare_71 : decode cX4_declare 71 = .ok (.getfield 7, 3) := by decide +kernel
theorem dX4_declare_74 : decode cX4_declare 74 = .ok (.bipush 20, 2) := by decide +kernel
theorem dX4_declare_76 : decode cX4_declare 76 = .ok (.iconst 3, 1) := by decide +kernel
theorem dX4_declare_77 : decode cX4_declare 77 = .ok (.iload 4, 2) := by decide +kernel
theorem dX4_declare_79 : decode cX4_declare 79 = .ok (.imul, 1) := by decide +kernel
theorem dX4_declare_80 : decode cX4_declare 80 = .ok (.iadd, 1) := by decide +kernel
theorem dX4_declare_81 : decode cX4_declare 81 = .ok (.iload_n 1, 1) := by decide +kernel
theorem dX4_declare_82 : decode cX4_declare 82 = .ok (.iastore, 1) := by decide +kernel
theorem dX4_declare_83 : decode cX4_declare 83 = .ok (.aload_n 0, 1) := by decide +kernel
theorem dX4_declare_84 : decode cX4_declare 84 = .ok (.getfield 7, 3) := by decide +kernel
theorem dX4_declare_87 : decode cX4_declare 87 = .ok (.bipush 20, 2) := by decide +kernel
theorem dX4_declare_89 : decode cX4_declare 89 = .ok (.iconst 3, 1) := by decide +kernel
theorem dX4_declare_90 : decode cX4_declare 90 = .ok (.iload 4, 2) := by decide +kernel
theorem dX4_declare_92 : decode cX4_declare 92 = .ok (.imul, 1) := by decide +kernel
theorem dX4_declare_93 : decode cX4_declare 93 = .ok (.iadd, 1) := by decide +kernel
theorem dX4_declare_94 : decode cX4_declare 94 = .ok (.iconst 1, 1) := by decide +kernel
theorem dX4_declare_95 : decode cX4_declare 95 = .ok (.iadd, 1) := by decide +kernel
theorem dX4_declare_96 : decode cX4_declare 96 = .ok (.iload_n 2, 1) := by decide +kernel
theorem dX4_declare_97 : decode cX4_declare 97 = .ok (.iastore, 1) := by decide +kernel
theorem dX4_declare_98 : decode cX4_declare 98 = .ok (.aload_n 0, 1) := by decide +kernel
theorem dX4_declare_99 : decode cX4_declare 99 = .ok (.getfield 7, 3) := by decide +kernel
theorem dX4_declare_102 : decode cX4_declare 102 = .ok (.bipush 20, 2) := by decide +kernel
theorem dX4_declare_104 : decode cX4_declare 104 = .ok (.iconst 3, 1) := by decide +kernel
theorem dX4_declare_105 : decode cX4_declare 105 = .ok (.iload 4, 2) := by decide +kernel
theorem dX4_declare_107 : decode cX4_declare 107 = .ok (.imul, 1) := by decide +kernel
theorem dX4_declare_108 : decode cX4_declare 108 = .ok (.iadd, 1) := by decide +kernel
theorem dX4_declare_109 : decode cX4_declare 109 = .ok (.iconst 2, 1) := by decide +kernel
theorem dX4_declare_110 : decode cX4_declare 110 = .ok (.iadd, 1) := by decide +kernel
theorem dX4_declare_111 : decode cX4_declare 111 = .ok (.iload_n 3, 1) := by decide +kernel
theorem dX4_declare_112 : decode cX4_declare 112 = .ok (.ifCond .eq 7, 3) := by decide +kernel
theorem dX4_declare_115 : decode cX4_declare 115 = .ok (.iconst 1, 1) := by decide +kernel
theorem dX4_declare_116 : decode cX4_declare 116 = .ok (.goto 4, 3) := by decide +kernel
theorem dX4_declare_119 : decode cX4_declare 119 = .ok (.iconst 0, 1) := by decide +kernel
theorem dX4_declare_120 : decode cX4_declare 120 = .ok (.iastore, 1) := by decide +kernel
theorem dX4_declare_121 : decode cX4_declare 121 = .ok (.aload_n 0, 1) := by decide +kernel
theorem dX4_declare_122 : decode cX4_declare 122 = .ok (.getfield 7, 3) := by decide +kernel
theorem dX4_declare_125 : decode cX4_declare 125 = .ok (.iconst 1, 1) := by decide +kernel
theorem dX4_declare_126 : decode cX4_declare 126 = .ok (.dup2, 1) := by decide +kernel
theorem dX4_declare_127 : decode cX4_declare 127 = .ok (.iaload, 1) := by decide +kernel
theorem dX4_declare_128 : decode cX4_declare 128 = .ok (.iconst 1, 1) := by decide +kernel
theorem dX4_declare_129 : decode cX4_declare 129 = .ok (.iadd, 1) := by decide +kernel
theorem dX4_declare_130 : decode cX4_declare 130 = .ok (.iastore, 1) := by decide +kernel
theorem dX4_declare_131 : decode cX4_declare 131 = .ok (.aload_n 0, 1) := by decide +kernel
theorem dX4_declare_132 : decode cX4_declare 132 = .ok (.iconst 0, 1) := by decide +kernel
theorem dX4_declare_133 : decode cX4_declare 133 = .ok (.putfield 49, 3) := by decide +kernel
theorem dX4_declare_136 : decode cX4_declare 136 = .ok (.iload 4, 2) := by decide +kernel
theorem dX4_declare_138 : decode cX4_declare 138 = .ok (.ireturn, 1) := by decide +kernel
theorem dX4_addImport_0 : decode cX4_addImport 0 = .ok (.bipush 110, 2) := by decide +kernel
theorem dX4_addImport_2 : decode cX4_addImport 2 = .ok (.bipush 6, 2) := by decide +kernel
theorem dX4_addImport_4 : decode cX4_addImport 4 = .ok (.aload_n 0, 1) := by decide +kernel
theorem dX4_addImport_5 : decode cX4_addImport 5 = .ok (.getfield 7, 3) := by decide +kernel
theorem dX4_addImport_8 : decode cX4_addImport 8 = .ok (.iconst 2, 1) := by decide +kernel
theorem dX4_addImport_9 : decode cX4_addImport 9 = .ok (.iaload, 1) := by decide +kernel
theorem dX4_addImport_10 : decode cX4_addImport 10 = .ok (.imul, 1) := by decide +kernel
theorem dX4_addImport_11 : decode cX4_addImport 11 = .ok (.iadd, 1) := by decide +kernel
theorem dX4_addImport_12 : decode cX4_addImport 12 = .ok (.istore 7, 2) := by decide +kernel
theorem dX4_addImport_14 : decode cX4_addImport 14 = .ok (.aload_n 0, 1) := by decide +kernel
theorem dX4_addImport_15 : decode cX4_addImport 15 = .ok (.getfield 7, 3) := by decide +kernel
theorem dX4_addImport_18 : decode cX4_addImport 18 = .ok (.iload 7, 2) := by decide +kernel
theorem dX4_addImport_20 : decode cX4_addImport 20 = .ok (.iload_n 1, 1) := by decide +kernel
theorem dX4_addImport_21 : decode cX4_addImport 21 = .ok (.iastore, 1) := by decide +kernel
theorem dX4_addImport_22 : decode cX4_addImport 22 = .ok (.aload_n 0, 1) := by decide +kernel
theorem dX4_addImport_23 : decode cX4_addImport 23 = .ok (.getfield 7, 3) := by decide +kernel
theorem dX4_addImport_26 : decode cX4_addImport 26 = .ok (.iload 7, 2) := by decide +kernel
theorem dX4_addImport_28 : decode cX4_addImport 28 = .ok (.iconst 1, 1) := by decide +kernel
theorem dX4_addImport_29 : decode cX4_addImport 29 = .ok (.iadd, 1) := by decide +kernel
theorem dX4_addImport_30 : decode cX4_addImport 30 = .ok (.iload_n 2, 1) := by decide +kernel
theorem dX4_addImport_31 : decode cX4_addImport 31 = .ok (.iastore, 1) := by decide +kernel
theorem dX4_addImport_32 : decode cX4_addImport 32 = .ok (.aload_n 0, 1) := by decide +kernel
theorem dX4_addImport_33 : decode cX4_addImport 33 = .ok (.getfield 7, 3) := by decide +kernel
theorem dX4_addImport_36 : decode cX4_addImport 36 = .ok (.iload 7, 2) := by decide +kernel
theorem dX4_addImport_38 : decode cX4_addImport 38 = .ok (.iconst 2, 1) := by decide +kernel
theorem dX4_addImport_39 : decode cX4_addImport 39 = .ok (.iadd, 1) := by decide +kernel
theorem dX4_addImport_40 : decode cX4_addImport 40 = .ok (.iload_n 3, 1) := by decide +kernel
theorem dX4_addImport_41 : decode cX4_addImport 41 = .ok (.iastore, 1) := by decide +kernel
theorem dX4_addImport_42 : decode cX4_addImport 42 = .ok (.aload_n 0, 1) := by decide +kernel
theorem dX4_addImport_43 : decode cX4_addImport 43 = .ok (.getfield 7, 3) := by decide +kernel
theorem dX4_addImport_46 : decode cX4_addImport 46 = .ok (.iload 7, 2) := by decide +kernel
theorem dX4_addImport_48 : decode cX4_addImport 48 = .ok (.iconst 3, 1) := by decide +kernel
theorem dX4_addImport_49 : decode cX4_addImport 49 = .ok (.iadd, 1) := by decide +kernel
theorem dX4_addImport_50 : decode cX4_addImport 50 = .ok (.iload 4, 2) := by decide +kernel
theorem dX4_addImport_52 : decode cX4_addImport 52 = .ok (.iastore, 1) := by decide +kernel
theorem dX4_addImport_53 : decode cX4_addImport 53 = .ok (.aload_n 0, 1) := by decide +kernel
theorem dX4_addImport_54 : decode cX4_addImport 54 = .ok (.getfield 7, 3) := by decide +kernel
theorem dX4_addImport_57 : decode cX4_addImport 57 = .ok (.iload 7, 2) := by decide +kernel
theorem dX4_addImport_59 : decode cX4_addImport 59 = .ok (.iconst 4, 1) := by decide +kernel
theorem dX4_addImport_60 : decode cX4_addImport 60 = .ok (.iadd, 1) := by decide +kernel
theorem dX4_addImport_61 : decode cX4_addImport 61 = .ok (.iload 5, 2) := by decide +kernel
theorem dX4_addImport_63 : decode cX4_addImport 63 = .ok (.iastore, 1) := by decide +kernel
theorem dX4_addImport_64 : decode cX4_addImport 64 = .ok (.aload_n 0, 1) := by decide +kernel
theorem dX4_addImport_65 : decode cX4_addImport 65 = .ok (.getfield 7, 3) := by decide +kernel
theorem dX4_addImport_68 : decode cX4_addImport 68 = .ok (.iload 7, 2) := by decide +kernel
theorem dX4_addImport_70 : decode cX4_addImport 70 = .ok (.iconst 5, 1) := by decide +kernel
theorem dX4_addImport_71 : decode cX4_addImport 71 = .ok (.iadd, 1) := by decide +kernel
theorem dX4_addImport_72 : decode cX4_addImport 72 = .ok (.iload 6, 2) := by decide +kernel
theorem dX4_addImport_74 : decode cX4_addImport 74 = .ok (.ifCond .eq 7, 3) := by decide +kernel
theorem dX4_addImport_77 : decode cX4_addImport 77 = .ok (.iconst 1, 1) := by decide +kernel
theorem dX4_addImport_78 : decode cX4_addImport 78 = .ok (.goto 4, 3) := by decide +kernel
theorem dX4_addImport_81 : decode cX4_addImport 81 = .ok (.iconst 0, 1) := by decide +kernel
theorem dX4_addImport_82 : decode cX4_addImport 82 = .ok (.iastore, 1) := by decide +kernel
theorem dX4_addImport_83 : decode cX4_addImport 83 = .ok (.aload_n 0, 1) := by decide +kernel
theorem dX4_addImport_84 : decode cX4_addImport 84 = .ok (.getfield 7, 3) := by decide +kernel
theorem dX4_addImport_87 : decode cX4_addImport 87 = .ok (.iconst 2, 1) := by decide +kernel
theorem dX4_addImport_88 : decode cX4_addImport 88 = .ok (.dup2, 1) := by decide +kernel
theorem dX4_addImport_89 : decode cX4_addImport 89 = .ok (.iaload, 1) := by decide +kernel
theorem dX4_addImport_90 : decode cX4_addImport 90 = .ok (.iconst 1, 1) := by decide +kernel
theorem dX4_addImport_91 : decode cX4_addImport 91 = .ok (.iadd, 1) := by decide +kernel
theorem dX4_addImport_92 : decode cX4_addImport 92 = .ok (.iastore, 1) := by decide +kernel
theorem dX4_addImport_93 : decode cX4_addImport 93 = .ok (.aload_n 0, 1) := by decide +kernel
theorem dX4_addImport_94 : decode cX4_addImport 94 = .ok (.iconst 0, 1) := by decide +kernel
theorem dX4_addImport_95 : decode cX4_addImport 95 = .ok (.putfield 49, 3) := by decide +kernel
theorem dX4_addImport_98 : decode cX4_addImport 98 = .ok (.aload_n 0, 1) := by decide +kernel
theorem dX4_addImport_99 : decode cX4_addImport 99 = .ok (.getfield 7, 3) := by decide +kernel
theorem dX4_addImport_102 : decode cX4_addImport 102 = .ok (.iconst 2, 1) := by decide +kernel
theorem dX4_addImport_103 : decode cX4_addImport 103 = .ok (.iaload, 1) := by decide +kernel
theorem dX4_addImport_104 : decode cX4_addImport 104 = .ok (.iconst 1, 1) := by decide +kernel
theorem dX4_addImport_105 : decode cX4_addImport 105 = .ok (.isub, 1) := by decide +kernel
theorem dX4_addImport_106 : decode cX4_addImport 106 = .ok (.ireturn, 1) := by decide +kernel
theorem dX4_wrongImport_0 : decode cX4_wrongImport 0 = .ok (.aload_n 0, 1) := by decide +kernel
theorem dX4_wrongImport_1 : decode cX4_wrongImport 1 = .ok (.iload_n 1, 1) := by decide +kernel
theorem dX4_wrongImport_2 : decode cX4_wrongImport 2 = .ok (.invokevirtual 103, 3) := by decide +kernel
theorem dX4_wrongImport_5 : decode cX4_wrongImport 5 = .ok (.ifCond .eq 11, 3) := by decide +kernel
theorem dX4_wrongImport_8 : decode cX4_wrongImport 8 = .ok (.aload_n 0, 1) := by decide +kernel
theorem dX4_wrongImport_9 : decode cX4_wrongImport 9 = .ok (.iload_n 2, 1) := by decide +kernel
theorem dX4_wrongImport_10 : decode cX4_wrongImport 10 = .ok (.invokevirtual 103, 3) := by decide +kernel
theorem dX4_wrongImport_13 : decode cX4_wrongImport 13 = .ok (.ifCond .ne 7, 3) := by decide +kernel
theorem dX4_wrongImport_16 : decode cX4_wrongImport 16 = .ok (.iconst 1, 1) := by decide +kernel
theorem dX4_wrongImport_17 : decode cX4_wrongImport 17 = .ok (.goto 32, 3) := by decide +kernel
theorem dX4_wrongImport_20 : decode cX4_wrongImport 20 = .ok (.iload_n 1, 1) := by decide +kernel
theorem dX4_wrongImport_21 : decode cX4_wrongImport 21 = .ok (.iload_n 2, 1) := by decide +kernel
theorem dX4_wrongImport_22 : decode cX4_wrongImport 22 = .ok (.if_icmp .eq 7, 3) := by decide +kernel
theorem dX4_wrongImport_25 : decode cX4_wrongImport 25 = .ok (.iload_n 3, 1) := by decide +kernel
theorem dX4_wrongImport_26 : decode cX4_wrongImport 26 = .ok (.ifCond .ne 7, 3) := by decide +kernel
theorem dX4_wrongImport_29 : decode cX4_wrongImport 29 = .ok (.iconst 2, 1) := by decide +kernel
theorem dX4_wrongImport_30 : decode cX4_wrongImport 30 = .ok (.goto 19, 3) := by decide +kernel
theorem dX4_wrongImport_33 : decode cX4_wrongImport 33 = .ok (.aload_n 0, 1) := by decide +kernel
theorem dX4_wrongImport_34 : decode cX4_wrongImport 34 = .ok (.getfield 7, 3) := by decide +kernel
theorem dX4_wrongImport_37 : decode cX4_wrongImport 37 = .ok (.iconst 2, 1) := by decide +kernel
theorem dX4_wrongImport_38 : decode cX4_wrongImport 38 = .ok (.iaload, 1) := by decide +kernel
theorem dX4_wrongImport_39 : decode cX4_wrongImport 39 = .ok (.bipush 20, 2) := by decide +kernel
theorem dX4_wrongImport_41 : decode cX4_wrongImport 41 = .ok (.if_icmp .ne 7, 3) := by decide +kernel
theorem dX4_wrongImport_44 : decode cX4_wrongImport 44 = .ok (.iconst 3, 1) := by decide +kernel
theorem dX4_wrongImport_45 : decode cX4_wrongImport 45 = .ok (.goto 4, 3) := by decide +kernel
theorem dX4_wrongImport_48 : decode cX4_wrongImport 48 = .ok (.iconst 0, 1) := by decide +kernel
theorem dX4_wrongImport_49 : decode cX4_wrongImport 49 = .ok (.ireturn, 1) := by decide +kernel
theorem dX4_importOne_0 : decode cX4_importOne 0 = .ok (.aload_n 0, 1) := by decide +kernel
theorem dX4_importOne_1 : decode cX4_importOne 1 = .ok (.aload_n 0, 1) := by decide +kernel
theorem dX4_importOne_2 : decode cX4_importOne 2 = .ok (.iload_n 1, 1) := by decide +kernel
theorem dX4_importOne_3 : decode cX4_importOne 3 = .ok (.iload_n 2, 1) := by decide +kernel
theorem dX4_importOne_4 : decode cX4_importOne 4 = .ok (.iload_n 3, 1) := by decide +kernel
theorem dX4_importOne_5 : decode cX4_importOne 5 = .ok (.invokestatic 106, 3) := by decide +kernel
theorem dX4_importOne_8 : decode cX4_importOne 8 = .ok (.ifCond .eq 15, 3) := by decide +kernel
theorem dX4_importOne_11 : decode cX4_importOne 11 = .ok (.iload 4, 2) := by decide +kernel
theorem dX4_importOne_13 : decode cX4_importOne 13 = .ok (.invokestatic 106, 3) := by decide +kernel
theorem dX4_importOne_16 : decode cX4_importOne 16 = .ok (.ifCond .eq 7, 3) := by decide +kernel
theorem dX4_importOne_19 : decode cX4_importOne 19 = .ok (.iconst 1, 1) := by decide +kernel
theorem dX4_importOne_20 : decode cX4_importOne 20 = .ok (.goto 4, 3) := by decide +kernel
theorem dX4_importOne_23 : decode cX4_importOne 23 = .ok (.iconst 0, 1) := by decide +kernel
theorem dX4_importOne_24 : decode cX4_importOne 24 = .ok (.invokevirtual 109, 3) := by decide +kernel
theorem dX4_importOne_27 : decode cX4_importOne 27 = .ok (.putfield 37, 3) := by decide +kernel
theorem dX4_importOne_30 : decode cX4_importOne 30 = .ok (.aload_n 0, 1) := by decide +kernel
theorem dX4_importOne_31 : decode cX4_importOne 31 = .ok (.getfield 37, 3) := by decide +kernel
theorem dX4_importOne_34 : decode cX4_importOne 34 = .ok (.ifCond .le 7, 3) := by decide +kernel
theorem dX4_importOne_37 : decode cX4_importOne 37 = .ok (.iconst 0, 1) := by decide +kernel
theorem dX4_importOne_38 : decode cX4_importOne 38 = .ok (.goto 15, 3) := by decide +kernel
theorem dX4_importOne_41 : decode cX4_importOne 41 = .ok (.aload_n 0, 1) := by decide +kernel
theorem dX4_importOne_42 : decode cX4_importOne 42 = .ok (.iload_n 1, 1) := by decide +kernel
theorem dX4_importOne_43 : decode cX4_importOne 43 = .ok (.iload_n 2, 1) := by decide +kernel
theorem dX4_importOne_44 : decode cX4_importOne 44 = .ok (.iload_n 3, 1) := by decide +kernel
theorem dX4_importOne_45 : decode cX4_importOne 45 = .ok (.iload 4, 2) := by decide +kernel
theorem dX4_importOne_47 : decode cX4_importOne 47 = .ok (.iconst 0, 1) := by decide +kernel
theorem dX4_importOne_48 : decode cX4_importOne 48 = .ok (.iload 5, 2) := by decide +kernel
theorem dX4_importOne_50 : decode cX4_importOne 50 = .ok (.invokevirtual 113, 3) := by decide +kernel
theorem dX4_importOne_53 : decode cX4_importOne 53 = .ok (.ireturn, 1) := by decide +kernel
theorem dX4_importAll_0 : decode cX4_importAll 0 = .ok (.aload_n 0, 1) := by decide +kernel
theorem dX4_importAll_1 : decode cX4_importAll 1 = .ok (.aload_n 0, 1) := by decide +kernel
theorem dX4_importAll_2 : decode cX4_importAll 2 = .ok (.iload_n 1, 1) := by decide +kernel
theorem dX4_importAll_3 : decode cX4_importAll 3 = .ok (.iload_n 2, 1) := by decide +kernel
theorem dX4_importAll_4 : decode cX4_importAll 4 = .ok (.iload_n 3, 1) := by decide +kernel
theorem dX4_importAll_5 : decode cX4_importAll 5 = .ok (.iconst 0, 1) := by decide +kernel
theorem dX4_importAll_6 : decode cX4_importAll 6 = .ok (.ldc 117, 2) := by decide +kernel
theorem dX4_importAll_8 : decode cX4_importAll 8 = .ok (.invokestatic 41, 3) := by decide +kernel
theorem dX4_importAll_11 : decode cX4_importAll 11 = .ok (.invokevirtual 109, 3) := by decide +kernel
theorem dX4_importAll_14 : decode cX4_importAll 14 = .ok (.putfield 37, 3) := by decide +kernel
theorem dX4_importAll_17 : decode cX4_importAll 17 = .ok (.aload_n 0, 1) := by decide +kernel
theorem dX4_importAll_18 : decode cX4_importAll 18 = .ok (.getfield 37, 3) := by decide +kernel
theorem dX4_importAll_21 : decode cX4_importAll 21 = .ok (.ifCond .le 7, 3) := by decide +kernel
theorem dX4_importAll_24 : decode cX4_importAll 24 = .ok (.iconst 0, 1) := by decide +kernel
theorem dX4_importAll_25 : decode cX4_importAll 25 = .ok (.goto 14, 3) := by decide +kernel
theorem dX4_importAll_28 : decode cX4_importAll 28 = .ok (.aload_n 0, 1) := by decide +kernel
theorem dX4_importAll_29 : decode cX4_importAll 29 = .ok (.iload_n 1, 1) := by decide +kernel
theorem dX4_importAll_30 : decode cX4_importAll 30 = .ok (.iload_n 2, 1) := by decide +kernel
theorem dX4_importAll_31 : decode cX4_importAll 31 = .ok (.iconst (-1), 1) := by decide +kernel
theorem dX4_importAll_32 : decode cX4_importAll 32 = .ok (.iconst (-1), 1) := by decide +kernel
theorem dX4_importAll_33 : decode cX4_importAll 33 = .ok (.iload_n 3, 1) := by decide +kernel
theorem dX4_importAll_34 : decode cX4_importAll 34 = .ok (.iload 4, 2) := by decide +kernel
theorem dX4_importAll_36 : decode cX4_importAll 36 = .ok (.invokevirtual 113, 3) := by decide +kernel
theorem dX4_importAll_39 : decode cX4_importAll 39 = .ok (.ireturn, 1) := by decide +kernel
theorem dX4_use_0 : decode cX4_use 0 = .ok (.aload_n 0, 1) := by decide +kernel
theorem dX4_use_1 : decode cX4_use 1 = .ok (.aload_n 0, 1) := by decide +kernel
theorem dX4_use_2 : decode cX4_use 2 = .ok (.iload_n 1, 1) := by decide +kernel
theorem dX4_use_3 : decode cX4_use 3 = .ok (.invokevirtual 103, 3) := by decide +kernel
theorem dX4_use_6 : decode cX4_use 6 = .ok (.ifCond .ne 7, 3) := by decide +kernel
theorem dX4_use_9 : decode cX4_use 9 = .ok (.iconst 1, 1) := by decide +kernel
theorem dX4_use_10 : decode cX4_use 10 = .ok (.goto 30, 3) := by decide +kernel
theorem dX4_use_13 : decode cX4_use 13 = .ok (.iload_n 2, 1) := by decide +kernel
theorem dX4_use_14 : decode cX4_use 14 = .ok (.invokestatic 106, 3) := by decide +kernel
theorem dX4_use_17 : decode cX4_use 17 = .ok (.ifCond .ne 7, 3) := by decide +kernel
theorem dX4_use_20 : decode cX4_use 20 = .ok (.iconst 2, 1) := by decide +kernel
theorem dX4_use_21 : decode cX4_use 21 = .ok (.goto 19, 3) := by decide +kernel
theorem dX4_use_24 : decode cX4_use 24 = .ok (.aload_n 0, 1) := by decide +kernel
theorem dX4_use_25 : decode cX4_use 25 = .ok (.getfield 7, 3) := by decide +kernel
theorem dX4_use_28 : decode cX4_use 28 = .ok (.iconst 3, 1) := by decide +kernel
theorem dX4_use_29 : decode cX4_use 29 = .ok (.iaload, 1) := by decide +kernel
theorem dX4_use_30 : decode cX4_use 30 = .ok (.bipush 30, 2) := by decide +kernel
theorem dX4_use_32 : decode cX4_use 32 = .ok (.if_icmp .ne 7, 3) := by decide +kernel
theorem dX4_use_35 : decode cX4_use 35 = .ok (.iconst 3, 1) := by decide +kernel
theorem dX4_use_36 : decode cX4_use 36 = .ok (.goto 4, 3) := by decide +kernel
theorem dX4_use_39 : decode cX4_use 39 = .ok (.iconst 0, 1) := by decide +kernel
theorem dX4_use_40 : decode cX4_use 40 = .ok (.putfield 37, 3) := by decide +kernel
theorem dX4_use_43 : decode cX4_use 43 = .ok (.aload_n 0, 1) := by decide +kernel
theorem dX4_use_44 : decode cX4_use 44 = .ok (.getfield 37, 3) := by decide +kernel
theorem dX4_use_47 : decode cX4_use 47 = .ok (.ifCond .le 5, 3) := by decide +kernel
theorem dX4_use_50 : decode cX4_use 50 = .ok (.iconst 0, 1) := by decide +kernel
theorem dX4_use_51 : decode cX4_use 51 = .ok (.ireturn, 1) := by decide +kernel
theorem dX4_use_52 : decode cX4_use 52 = .ok (.aload_n 0, 1) := by decide +kernel
theorem dX4_use_53 : decode cX4_use 53 = .ok (.getfield 7, 3) := by decide +kernel
theorem dX4_use_56 : decode cX4_use 56 = .ok (.sipush 230, 3) := by decide +kernel
theorem dX4_use_59 : decode cX4_use 59 = .ok (.iconst 2, 1) := by decide +kernel
theorem dX4_use_60 : decode cX4_use 60 = .ok (.aload_n 0, 1) := by decide +kernel
theorem dX4_use_61 : decode cX4_use 61 = .ok (.getfield 7, 3) := by decide +kernel
theorem dX4_use_64 : decode cX4_use 64 = .ok (.iconst 3, 1) := by decide +kernel
theorem dX4_use_65 : decode cX4_use 65 = .ok (.iaload, 1) := by decide +kernel
theorem dX4_use_66 : decode cX4_use 66 = .ok (.imul, 1) := by decide +kernel
theorem dX4_use_67 : decode cX4_use 67 = .ok (.iadd, 1) := by decide +kernel
theorem dX4_use_68 : decode cX4_use 68 = .ok (.iload_n 1, 1) := by decide +kernel
theorem dX4_use_69 : decode cX4_use 69 = .ok (.iastore, 1) := by decide +kernel
theorem dX4_use_70 : decode cX4_use 70 = .ok (.aload_n 0, 1) := by decide +kernel
theorem dX4_use_71 : decode cX4_use 71 = .ok (.getfield 7, 3) := by decide +kernel
theorem dX4_use_74 : decode cX4_use 74 = .ok (.sipush 230, 3) := by decide +kernel
theorem dX4_use_77 : decode cX4_use 77 = .ok (.iconst 2, 1) := by decide +kernel
theorem dX4_use_78 : decode cX4_use 78 = .ok (.aload_n 0, 1) := by decide +kernel
theorem dX4_use_79 : decode cX4_use 79 = .ok (.getfield 7, 3) := by decide +kernel
theorem dX4_use_82 : decode cX4_use 82 = .ok (.iconst 3, 1) := by decide +kernel
theorem dX4_use_83 : decode cX4_use 83 = .ok (.iaload, 1) := by decide +kernel
theorem dX4_use_84 : decode cX4_use 84 = .ok (.imul, 1) := by decide +kernel
theorem dX4_use_85 : decode cX4_use 85 = .ok (.iadd, 1) := by decide +kernel
theorem dX4_use_86 : decode cX4_use 86 = .ok (.iconst 1, 1) := by decide +kernel
theorem dX4_use_87 : decode cX4_use 87 = .ok (.iadd, 1) := by decide +kernel
theorem dX4_use_88 : decode cX4_use 88 = .ok (.iload_n 2, 1) := by decide +kernel
theorem dX4_use_89 : decode cX4_use 89 = .ok (.iastore, 1) := by decide +kernel
theorem dX4_use_90 : decode cX4_use 90 = .ok (.aload_n 0, 1) := by decide +kernel
theorem dX4_use_91 : decode cX4_use 91 = .ok (.getfield 7, 3) := by decide +kernel
theorem dX4_use_94 : decode cX4_use 94 = .ok (.iconst 3, 1) := by decide +kernel
theorem dX4_use_95 : decode cX4_use 95 = .ok (.dup2, 1) := by decide +kernel
theorem dX4_use_96 : decode cX4_use 96 = .ok (.iaload, 1) := by decide +kernel
theorem dX4_use_97 : decode cX4_use 97 = .ok (.iconst 1, 1) := by decide +kernel
theorem dX4_use_98 : decode cX4_use 98 = .ok (.iadd, 1) := by decide +kernel
theorem dX4_use_99 : decode cX4_use 99 = .ok (.iastore, 1) := by decide +kernel
theorem dX4_use_100 : decode cX4_use 100 = .ok (.aload_n 0, 1) := by decide +kernel
theorem dX4_use_101 : decode cX4_use 101 = .ok (.getfield 7, 3) := by decide +kernel
theorem dX4_use_104 : decode cX4_use 104 = .ok (.iconst 3, 1) := by decide +kernel
theorem dX4_use_105 : decode cX4_use 105 = .ok (.iaload, 1) := by decide +kernel
theorem dX4_use_106 : decode cX4_use 106 = .ok (.iconst 1, 1) := by decide +kernel
theorem dX4_use_107 : decode cX4_use 107 = .ok (.isub, 1) := by decide +kernel
theorem dX4_use_108 : decode cX4_use 108 = .ok (.ireturn, 1) := by decide +kernel
theorem dX4_layOutcomes_0 : decode cX4_layOutcomes 0 = .ok (.iconst 0, 1) := by decide +kernel
theorem dX4_layOutcomes_1 : decode cX4_layOutcomes 1 = .ok (.istore_n 1, 1) := by decide +kernel
theorem dX4_layOutcomes_2 : decode cX4_layOutcomes 2 = .ok (.iload_n 1, 1) := by decide +kernel
theorem dX4_layOutcomes_3 : decode cX4_layOutcomes 3 = .ok (.aload_n 0, 1) := by decide +kernel
theorem dX4_layOutcomes_4 : decode cX4_layOutcomes 4 = .ok (.getfield 7, 3) := by decide +kernel
theorem dX4_layOutcomes_7 : decode cX4_layOutcomes 7 = .ok (.iconst 3, 1) := by decide +kernel
theorem dX4_layOutcomes_8 : decode cX4_layOutcomes 8 = .ok (.iaload, 1) := by decide +kernel
theorem dX4_layOutcomes_9 : decode cX4_layOutcomes 9 = .ok (.if_icmp .ge 20, 3) := by decide +kernel
theorem dX4_layOutcomes_12 : decode cX4_layOutcomes 12 = .ok (.aload_n 0, 1) := by decide +kernel
theorem dX4_layOutcomes_13 : decode cX4_layOutcomes 13 = .ok (.getfield 31, 3) := by decide +kernel
theorem dX4_layOutcomes_16 : decode cX4_layOutcomes 16 = .ok (.iload_n 1, 1) := by decide +kernel
theorem dX4_layOutcomes_17 : decode cX4_layOutcomes 17 = .ok (.aload_n 0, 1) := by decide +kernel
theorem dX4_layOutcomes_18 : decode cX4_layOutcomes 18 = .ok (.iload_n 1, 1) := by decide +kernel
theorem dX4_layOutcomes_19 : decode cX4_layOutcomes 19 = .ok (.invokevirtual 118, 3) := by decide +kernel
theorem dX4_layOutcomes_22 : decode cX4_layOutcomes 22 = .ok (.iastore, 1) := by decide +kernel
theorem dX4_layOutcomes_23 : decode cX4_layOutcomes 23 = .ok (.iinc 1 1, 3) := by decide +kernel
theorem dX4_layOutcomes_26 : decode cX4_layOutcomes 26 = .ok (.goto (-24), 3) := by decide +kernel
theorem dX4_layOutcomes_29 : decode cX4_layOutcomes 29 = .ok (.return_, 1) := by decide +kernel
theorem dX4_otherOutcomes_0 : decode cX4_otherOutcomes 0 = .ok (.iconst 0, 1) := by decide +kernel
theorem dX4_otherOutcomes_1 : decode cX4_otherOutcomes 1 = .ok (.istore_n 1, 1) := by decide +kernel
theorem dX4_otherOutcomes_2 : decode cX4_otherOutcomes 2 = .ok (.iconst 0, 1) := by decide +kernel
theorem dX4_otherOutcomes_3 : decode cX4_otherOutcomes 3 = .ok (.istore_n 2, 1) := by decide +kernel
theorem dX4_otherOutcomes_4 : decode cX4_otherOutcomes 4 = .ok (.iload_n 2, 1) := by decide +kernel
theorem dX4_otherOutcomes_5 : decode cX4_otherOutcomes 5 = .ok (.aload_n 0, 1) := by decide +kernel
theorem dX4_otherOutcomes_6 : decode cX4_otherOutcomes 6 = .ok (.getfield 7, 3) := by decide +kernel
theorem dX4_otherOutcomes_9 : decode cX4_otherOutcomes 9 = .ok (.iconst 3, 1) := by decide +kernel
theorem dX4_otherOutcomes_10 : decode cX4_otherOutcomes 10 = .ok (.iaload, 1) := by decide +kernel
theorem dX4_otherOutcomes_11 : decode cX4_otherOutcomes 11 = .ok (.if_icmp .ge 31, 3) := by decide +kernel
theorem dX4_otherOutcomes_14 : decode cX4_otherOutcomes 14 = .ok (.iload_n 1, 1) := by decide +kernel
theorem dX4_otherOutcomes_15 : decode cX4_otherOutcomes 15 = .ok (.aload_n 0, 1) := by decide +kernel
theorem dX4_otherOutcomes_16 : decode cX4_otherOutcomes 16 = .ok (.iload_n 2, 1) := by decide +kernel
theorem dX4_otherOutcomes_17 : decode cX4_otherOutcomes 17 = .ok (.invokevirtual 118, 3) := by decide +kernel
theorem dX4_otherOutcomes_20 : decode cX4_otherOutcomes 20 = .ok (.aload_n 0, 1) := by decide +kernel
theorem dX4_otherOutcomes_21 : decode cX4_otherOutcomes 21 = .ok (.getfield 31, 3) := by decide +kernel
theorem dX4_otherOutcomes_24 : decode cX4_otherOutcomes 24 = .ok (.iload_n 2, 1) := by decide +kernel
theorem dX4_otherOutcomes_25 : decode cX4_otherOutcomes 25 = .ok (.iaload, 1) := by decide +kernel
theorem dX4_otherOutcomes_26 : decode cX4_otherOutcomes 26 = .ok (.if_icmp .ne 7, 3) := by decide +kernel
theorem dX4_otherOutcomes_29 : decode cX4_otherOutcomes 29 = .ok (.iconst 0, 1) := by decide +kernel
theorem dX4_otherOutcomes_30 : decode cX4_otherOutcomes 30 = .ok (.goto 4, 3) := by decide +kernel
theorem dX4_otherOutcomes_33 : decode cX4_otherOutcomes 33 = .ok (.iconst 1, 1) := by decide +kernel
theorem dX4_otherOutcomes_34 : decode cX4_otherOutcomes 34 = .ok (.iadd, 1) := by decide +kernel
theorem dX4_otherOutcomes_35 : decode cX4_otherOutcomes 35 = .ok (.istore_n 1, 1) := by decide +kernel
theorem dX4_otherOutcomes_36 : decode cX4_otherOutcomes 36 = .ok (.iinc 2 1, 3) := by decide +kernel
theorem dX4_otherOutcomes_39 : decode cX4_otherOutcomes 39 = .ok (.goto (-35), 3) := by decide +kernel
theorem dX4_otherOutcomes_42 : decode cX4_otherOutcomes 42 = .ok (.iload_n 1, 1) := by decide +kernel
theorem dX4_otherOutcomes_43 : decode cX4_otherOutcomes 43 = .ok (.ireturn, 1) := by decide +kernel
theorem dX4_cut_0 : decode cX4_cut 0 = .ok (.aload_n 0, 1) := by decide +kernel
theorem dX4_cut_1 : decode cX4_cut 1 = .ok (.getfield 7, 3) := by decide +kernel
theorem dX4_cut_4 : decode cX4_cut 4 = .ok (.iload 4, 2) := by decide +kernel
theorem dX4_cut_6 : decode cX4_cut 6 = .ok (.dup2, 1) := by decide +kernel
theorem dX4_cut_7 : decode cX4_cut 7 = .ok (.iaload, 1) := by decide +kernel
theorem dX4_cut_8 : decode cX4_cut 8 = .ok (.iconst 1, 1) := by decide +kernel
theorem dX4_cut_9 : decode cX4_cut 9 = .ok (.isub, 1) := by decide +kernel
theorem dX4_cut_10 : decode cX4_cut 10 = .ok (.iastore, 1) := by decide +kernel
theorem dX4_cut_11 : decode cX4_cut 11 = .ok (.iload_n 1, 1) := by decide +kernel
theorem dX4_cut_12 : decode cX4_cut 12 = .ok (.iload_n 2, 1) := by decide +kernel
theorem dX4_cut_13 : decode cX4_cut 13 = .ok (.iload_n 3, 1) := by decide +kernel
theorem dX4_cut_14 : decode cX4_cut 14 = .ok (.imul, 1) := by decide +kernel
theorem dX4_cut_15 : decode cX4_cut 15 = .ok (.iadd, 1) := by decide +kernel
theorem dX4_cut_16 : decode cX4_cut 16 = .ok (.istore 5, 2) := by decide +kernel
theorem dX4_cut_18 : decode cX4_cut 18 = .ok (.iload 5, 2) := by decide +kernel
theorem dX4_cut_20 : decode cX4_cut 20 = .ok (.iload_n 1, 1) := by decide +kernel
theorem dX4_cut_21 : decode cX4_cut 21 = .ok (.iload_n 2, 1) := by decide +kernel
theorem dX4_cut_22 : decode cX4_cut 22 = .ok (.aload_n 0, 1) := by decide +kernel
theorem dX4_cut_23 : decode cX4_cut 23 = .ok (.getfield 7, 3) := by decide +kernel
theorem dX4_cut_26 : decode cX4_cut 26 = .ok (.iload 4, 2) := by decide +kernel
theorem dX4_cut_28 : decode cX4_cut 28 = .ok (.iaload, 1) := by decide +kernel
theorem dX4_cut_29 : decode cX4_cut 29 = .ok (.imul, 1) := by decide +kernel
theorem dX4_cut_30 : decode cX4_cut 30 = .ok (.iadd, 1) := by decide +kernel
theorem dX4_cut_31 : decode cX4_cut 31 = .ok (.if_icmp .ge 25, 3) := by decide +kernel
theorem dX4_cut_34 : decode cX4_cut 34 = .ok (.aload_n 0, 1) := by decide +kernel
theorem dX4_cut_35 : decode cX4_cut 35 = .ok (.getfield 7, 3) := by decide +kernel
theorem dX4_cut_38 : decode cX4_cut 38 = .ok (.iload 5, 2) := by decide +kernel
theorem dX4_cut_40 : decode cX4_cut 40 = .ok (.aload_n 0, 1) := by decide +kernel
theorem dX4_cut_41 : decode cX4_cut 41 = .ok (.getfield 7, 3) := by decide +kernel
theorem dX4_cut_44 : decode cX4_cut 44 = .ok (.iload 5, 2) := by decide +kernel
theorem dX4_cut_46 : decode cX4_cut 46 = .ok (.iload_n 2, 1) := by decide +kernel
theorem dX4_cut_47 : decode cX4_cut 47 = .ok (.iadd, 1) := by decide +kernel
theorem dX4_cut_48 : decode cX4_cut 48 = .ok (.iaload, 1) := by decide +kernel
theorem dX4_cut_49 : decode cX4_cut 49 = .ok (.iastore, 1) := by decide +kernel
theorem dX4_cut_50 : decode cX4_cut 50 = .ok (.iinc 5 1, 3) := by decide +kernel
theorem dX4_cut_53 : decode cX4_cut 53 = .ok (.goto (-35), 3) := by decide +kernel
theorem dX4_cut_56 : decode cX4_cut 56 = .ok (.aload_n 0, 1) := by decide +kernel
theorem dX4_cut_57 : decode cX4_cut 57 = .ok (.iconst 0, 1) := by decide +kernel
theorem dX4_cut_58 : decode cX4_cut 58 = .ok (.putfield 49, 3) := by decide +kernel
theorem dX4_cut_61 : decode cX4_cut 61 = .ok (.return_, 1) := by decide +kernel
theorem dX4_lowered_0 : decode cX4_lowered 0 = .ok (.iload_n 0, 1) := by decide +kernel
theorem dX4_lowered_1 : decode cX4_lowered 1 = .ok (.iload_n 1, 1) := by decide +kernel
theorem dX4_lowered_2 : decode cX4_lowered 2 = .ok (.ishr, 1) := by decide +kernel
theorem dX4_lowered_3 : decode cX4_lowered 3 = .ok (.iconst 1, 1) := by decide +kernel
theorem dX4_lowered_4 : decode cX4_lowered 4 = .ok (.iand, 1) := by decide +kernel
theorem dX4_lowered_5 : decode cX4_lowered 5 = .ok (.iconst 1, 1) := by decide +kernel
theorem dX4_lowered_6 : decode cX4_lowered 6 = .ok (.if_icmp .ne 5, 3) := by decide +kernel
theorem dX4_lowered_9 : decode cX4_lowered 9 = .ok (.iconst (-1), 1) := by decide +kernel
theorem dX4_lowered_10 : decode cX4_lowered 10 = .ok (.ireturn, 1) := by decide +kernel
theorem dX4_lowered_11 : decode cX4_lowered 11 = .ok (.iload_n 0, 1) := by decide +kernel
theorem dX4_lowered_12 : decode cX4_lowered 12 = .ok (.iconst 1, 1) := by decide +kernel
theorem dX4_lowered_13 : decode cX4_lowered 13 = .ok (.iload_n 1, 1) := by decide +kernel
theorem dX4_lowered_14 : decode cX4_lowered 14 = .ok (.ishl, 1) := by decide +kernel
theorem dX4_lowered_15 : decode cX4_lowered 15 = .ok (.iconst 1, 1) := by decide +kernel
theorem dX4_lowered_16 : decode cX4_lowered 16 = .ok (.isub, 1) := by decide +kernel
theorem dX4_lowered_17 : decode cX4_lowered 17 = .ok (.iand, 1) := by decide +kernel
theorem dX4_lowered_18 : decode cX4_lowered 18 = .ok (.istore_n 2, 1) := by decide +kernel
theorem dX4_lowered_19 : decode cX4_lowered 19 = .ok (.iload_n 2, 1) := by decide +kernel
theorem dX4_lowered_20 : decode cX4_lowered 20 = .ok (.iload_n 0, 1) := by decide +kernel
theorem dX4_lowered_21 : decode cX4_lowered 21 = .ok (.iload_n 1, 1) := by decide +kernel
theorem dX4_lowered_22 : decode cX4_lowered 22 = .ok (.iconst 1, 1) := by decide +kernel
theorem dX4_lowered_23 : decode cX4_lowered 23 = .ok (.iadd, 1) := by decide +kernel
theorem dX4_lowered_24 : decode cX4_lowered 24 = .ok (.ishr, 1) := by decide +kernel
theorem dX4_lowered_25 : decode cX4_lowered 25 = .ok (.iload_n 1, 1) := by decide +kernel
theorem dX4_lowered_26 : decode cX4_lowered 26 = .ok (.ishl, 1) := by decide +kernel
theorem dX4_lowered_27 : decode cX4_lowered 27 = .ok (.ior, 1) := by decide +kernel
theorem dX4_lowered_28 : decode cX4_lowered 28 = .ok (.ireturn, 1) := by decide +kernel
theorem dX4_removes_0 : decode cX4_removes 0 = .ok (.aload_n 0, 1) := by decide +kernel
theorem dX4_removes_1 : decode cX4_removes 1 = .ok (.invokevirtual 121, 3) := by decide +kernel
theorem dX4_removes_4 : decode cX4_removes 4 = .ok (.iload_n 1, 1) := by decide +kernel
theorem dX4_removes_5 : decode cX4_removes 5 = .ok (.ifCond .ne 49, 3) := by decide +kernel
theorem dX4_removes_8 : decode cX4_removes 8 = .ok (.iconst 0, 1) := by decide +kernel
theorem dX4_removes_9 : decode cX4_removes 9 = .ok (.istore_n 3, 1) := by decide +kernel
theorem dX4_removes_10 : decode cX4_removes 10 = .ok (.iload_n 3, 1) := by decide +kernel
theorem dX4_removes_11 : decode cX4_removes 11 = .ok (.aload_n 0, 1) := by decide +kernel
theorem dX4_removes_12 : decode cX4_removes 12 = .ok (.getfield 7, 3) := by decide +kernel
theorem dX4_removes_15 : decode cX4_removes 15 = .ok (.iconst 3, 1) := by decide +kernel
theorem dX4_removes_16 : decode cX4_removes 16 = .ok (.iaload, 1) := by decide +kernel
theorem dX4_removes_17 : decode cX4_removes 17 = .ok (.if_icmp .ge 25, 3) := by decide +kernel
theorem dX4_removes_20 : decode cX4_removes 20 = .ok (.aload_n 0, 1) := by decide +kernel
theorem dX4_removes_21 : decode cX4_removes 21 = .ok (.getfield 31, 3) := by decide +kernel
theorem dX4_removes_24 : decode cX4_removes 24 = .ok (.iload_n 3, 1) := by decide +kernel
theorem dX4_removes_25 : decode cX4_removes 25 = .ok (.aload_n 0, 1) := by decide +kernel
theorem dX4_removes_26 : decode cX4_removes 26 = .ok (.getfield 31, 3) := by decide +kernel
theorem dX4_removes_29 : decode cX4_removes 29 = .ok (.iload_n 3, 1) := by decide +kernel
theorem dX4_removes_30 : decode cX4_removes 30 = .ok (.iaload, 1) := by decide +kernel
theorem dX4_removes_31 : decode cX4_removes 31 = .ok (.iload_n 2, 1) := by decide +kernel
theorem dX4_removes_32 : decode cX4_removes 32 = .ok (.invokestatic 124, 3) := by decide +kernel
theorem dX4_removes_35 : decode cX4_removes 35 = .ok (.iastore, 1) := by decide +kernel
theorem dX4_removes_36 : decode cX4_removes 36 = .ok (.iinc 3 1, 3) := by decide +kernel
theorem dX4_removes_39 : decode cX4_removes 39 = .ok (.goto (-29), 3) := by decide +kernel
theorem dX4_removes_42 : decode cX4_removes 42 = .ok (.aload_n 0, 1) := by decide +kernel
theorem dX4_removes_43 : decode cX4_removes 43 = .ok (.bipush 20, 2) := by decide +kernel
theorem dX4_removes_45 : decode cX4_removes 45 = .ok (.iconst 3, 1) := by decide +kernel
theorem dX4_removes_46 : decode cX4_removes 46 = .ok (.iload_n 2, 1) := by decide +kernel
theorem dX4_removes_47 : decode cX4_removes 47 = .ok (.iconst 1, 1) := by decide +kernel
theorem dX4_removes_48 : decode cX4_removes 48 = .ok (.invokevirtual 127, 3) := by decide +kernel
theorem dX4_removes_51 : decode cX4_removes 51 = .ok (.goto 65, 3) := by decide +kernel
theorem dX4_removes_54 : decode cX4_removes 54 = .ok (.iload_n 1, 1) := by decide +kernel
theorem dX4_removes_55 : decode cX4_removes 55 = .ok (.iconst 1, 1) := by decide +kernel
theorem dX4_removes_56 : decode cX4_removes 56 = .ok (.if_icmp .ne 16, 3) := by decide +kernel
theorem dX4_removes_59 : decode cX4_removes 59 = .ok (.aload_n 0, 1) := by decide +kernel
theorem dX4_removes_60 : decode cX4_removes 60 = .ok (.bipush 110, 2) := by decide +kernel
theorem dX4_removes_62 : decode cX4_removes 62 = .ok (.bipush 6, 2) := by decide +kernel
theorem dX4_removes_64 : decode cX4_removes 64 = .ok (.iload_n 2, 1) := by decide +kernel
theorem dX4_removes_65 : decode cX4_removes 65 = .ok (.iconst 2, 1) := by decide +kernel
theorem dX4_removes_66 : decode cX4_removes 66 = .ok (.invokevirtual 127, 3) := by decide +kernel
theorem dX4_removes_69 : decode cX4_removes 69 = .ok (.goto 47, 3) := by decide +kernel
theorem dX4_removes_72 : decode cX4_removes 72 = .ok (.iload_n 2, 1) := by decide +kernel
theorem dX4_removes_73 : decode cX4_removes 73 = .ok (.istore_n 3, 1) := by decide +kernel
theorem dX4_removes_74 : decode cX4_removes 74 = .ok (.iload_n 3, 1) := by decide +kernel
theorem dX4_removes_75 : decode cX4_removes 75 = .ok (.aload_n 0, 1) := by decide +kernel
theorem dX4_removes_76 : decode cX4_removes 76 = .ok (.getfield 7, 3) := by decide +kernel
theorem dX4_removes_79 : decode cX4_removes 79 = .ok (.iconst 3, 1) := by decide +kernel
theorem dX4_removes_80 : decode cX4_removes 80 = .ok (.iaload, 1) := by decide +kernel
theorem dX4_removes_81 : decode cX4_removes 81 = .ok (.iconst 1, 1) := by decide +kernel
theorem dX4_removes_82 : decode cX4_removes 82 = .ok (.isub, 1) := by decide +kernel
theorem dX4_removes_83 : decode cX4_removes 83 = .ok (.if_icmp .ge 23, 3) := by decide +kernel
theorem dX4_removes_86 : decode cX4_removes 86 = .ok (.aload_n 0, 1) := by decide +kernel
theorem dX4_removes_87 : decode cX4_removes 87 = .ok (.getfield 31, 3) := by decide +kernel
theorem dX4_removes_90 : decode cX4_removes 90 = .ok (.iload_n 3, 1) := by decide +kernel
theorem dX4_removes_91 : decode cX4_removes 91 = .ok (.aload_n 0, 1) := by decide +kernel
theorem dX4_removes_92 : decode cX4_removes 92 = .ok (.getfield 31, 3) := by decide +kernel
theorem dX4_removes_95 : decode cX4_removes 95 = .ok (.iload_n 3, 1) := by decide +kernel
theorem dX4_removes_96 : decode cX4_removes 96 = .ok (.iconst 1, 1) := by decide +kernel
theorem dX4_removes_97 : decode cX4_removes 97 = .ok (.iadd, 1) := by decide +kernel
theorem dX4_removes_98 : decode cX4_removes 98 = .ok (.iaload, 1) := by decide +kernel
theorem dX4_removes_99 : decode cX4_removes 99 = .ok (.iastore, 1) := by decide +kernel
theorem dX4_removes_100 : decode cX4_removes 100 = .ok (.iinc 3 1, 3) := by decide +kernel
theorem dX4_removes_103 : decode cX4_removes 103 = .ok (.goto (-29), 3) := by decide +kernel
theorem dX4_removes_106 : decode cX4_removes 106 = .ok (.aload_n 0, 1) := by decide +kernel
theorem dX4_removes_107 : decode cX4_removes 107 = .ok (.sipush 230, 3) := by decide +kernel
theorem dX4_removes_110 : decode cX4_removes 110 = .ok (.iconst 2, 1) := by decide +kernel
theorem dX4_removes_111 : decode cX4_removes 111 = .ok (.iload_n 2, 1) := by decide +kernel
theorem dX4_removes_112 : decode cX4_removes 112 = .ok (.iconst 3, 1) := by decide +kernel
theorem dX4_removes_113 : decode cX4_removes 113 = .ok (.invokevirtual 127, 3) := by decide +kernel
theorem dX4_removes_116 : decode cX4_removes 116 = .ok (.aload_n 0, 1) := by decide +kernel
theorem dX4_removes_117 : decode cX4_removes 117 = .ok (.invokevirtual 131, 3) := by decide +kernel
theorem dX4_removes_120 : decode cX4_removes 120 = .ok (.ireturn, 1) := by decide +kernel
theorem dX4_remove_0 : decode cX4_remove 0 = .ok (.aload_n 0, 1) := by decide +kernel
theorem dX4_remove_1 : decode cX4_remove 1 = .ok (.iload_n 1, 1) := by decide +kernel
theorem dX4_remove_2 : decode cX4_remove 2 = .ok (.iconst 0, 1) := by decide +kernel
theorem dX4_remove_3 : decode cX4_remove 3 = .ok (.iconst 2, 1) := by decide +kernel
theorem dX4_remove_4 : decode cX4_remove 4 = .ok (.invokestatic 41, 3) := by decide +kernel
theorem dX4_remove_7 : decode cX4_remove 7 = .ok (.ifCond .ne 7, 3) := by decide +kernel
theorem dX4_remove_10 : decode cX4_remove 10 = .ok (.iconst 1, 1) := by decide +kernel
theorem dX4_remove_11 : decode cX4_remove 11 = .ok (.goto 26, 3) := by decide +kernel
theorem dX4_remove_14 : decode cX4_remove 14 = .ok (.iload_n 2, 1) := by decide +kernel
theorem dX4_remove_15 : decode cX4_remove 15 = .ok (.iconst 0, 1) := by decide +kernel
theorem dX4_remove_16 : decode cX4_remove 16 = .ok (.aload_n 0, 1) := by decide +kernel
theorem dX4_remove_17 : decode cX4_remove 17 = .ok (.getfield 7, 3) := by decide +kernel
theorem dX4_remove_20 : decode cX4_remove 20 = .ok (.iconst 1, 1) := by decide +kernel
theorem dX4_remove_21 : decode cX4_remove 21 = .ok (.iload_n 1, 1) := by decide +kernel
theorem dX4_remove_22 : decode cX4_remove 22 = .ok (.iadd, 1) := by decide +kernel
theorem dX4_remove_23 : decode cX4_remove 23 = .ok (.iaload, 1) := by decide +kernel
theorem dX4_remove_24 : decode cX4_remove 24 = .ok (.iconst 1, 1) := by decide +kernel
theorem dX4_remove_25 : decode cX4_remove 25 = .ok (.isub, 1) := by decide +kernel
theorem dX4_remove_26 : decode cX4_remove 26 = .ok (.invokestatic 41, 3) := by decide +kernel
theorem dX4_remove_29 : decode cX4_remove 29 = .ok (.ifCond .eq 7, 3) := by decide +kernel
theorem dX4_remove_32 : decode cX4_remove 32 = .ok (.iconst 0, 1) := by decide +kernel
theorem dX4_remove_33 : decode cX4_remove 33 = .ok (.goto 4, 3) := by decide +kernel
theorem dX4_remove_36 : decode cX4_remove 36 = .ok (.iconst 2, 1) := by decide +kernel
theorem dX4_remove_37 : decode cX4_remove 37 = .ok (.putfield 37, 3) := by decide +kernel
theorem dX4_remove_40 : decode cX4_remove 40 = .ok (.aload_n 0, 1) := by decide +kernel
theorem dX4_remove_41 : decode cX4_remove 41 = .ok (.getfield 37, 3) := by decide +kernel
theorem dX4_remove_44 : decode cX4_remove 44 = .ok (.ifCond .le 7, 3) := by decide +kernel
theorem dX4_remove_47 : decode cX4_remove 47 = .ok (.iconst 0, 1) := by decide +kernel
theorem dX4_remove_48 : decode cX4_remove 48 = .ok (.goto 9, 3) := by decide +kernel
theorem dX4_remove_51 : decode cX4_remove 51 = .ok (.aload_n 0, 1) := by decide +kernel
theorem dX4_remove_52 : decode cX4_remove 52 = .ok (.iload_n 1, 1) := by decide +kernel
theorem dX4_remove_53 : decode cX4_remove 53 = .ok (.iload_n 2, 1) := by decide +kernel
theorem dX4_remove_54 : decode cX4_remove 54 = .ok (.invokevirtual 135, 3) := by decide +kernel
theorem dX4_remove_57 : decode cX4_remove 57 = .ok (.ireturn, 1) := by decide +kernel
theorem dX4_append_0 : decode cX4_append 0 = .ok (.aload_n 0, 1) := by decide +kernel
theorem dX4_append_1 : decode cX4_append 1 = .ok (.iload_n 1, 1) := by decide +kernel
theorem dX4_append_2 : decode cX4_append 2 = .ok (.bipush 33, 2) := by decide +kernel
theorem dX4_append_4 : decode cX4_append 4 = .ok (.bipush 126, 2) := by decide +kernel
theorem dX4_append_6 : decode cX4_append 6 = .ok (.invokestatic 41, 3) := by decide +kernel
theorem dX4_append_9 : decode cX4_append 9 = .ok (.ifCond .ne 7, 3) := by decide +kernel
theorem dX4_append_12 : decode cX4_append 12 = .ok (.iconst 1, 1) := by decide +kernel
theorem dX4_append_13 : decode cX4_append 13 = .ok (.goto 17, 3) := by decide +kernel
theorem dX4_append_16 : decode cX4_append 16 = .ok (.aload_n 0, 1) := by decide +kernel
theorem dX4_append_17 : decode cX4_append 17 = .ok (.getfield 138, 3) := by decide +kernel
theorem dX4_append_20 : decode cX4_append 20 = .ok (.bipush 50, 2) := by decide +kernel
theorem dX4_append_22 : decode cX4_append 22 = .ok (.if_icmp .ne 7, 3) := by decide +kernel
theorem dX4_append_25 : decode cX4_append 25 = .ok (.iconst 2, 1) := by decide +kernel
theorem dX4_append_26 : decode cX4_append 26 = .ok (.goto 4, 3) := by decide +kernel
theorem dX4_append_29 : decode cX4_append 29 = .ok (.iconst 0, 1) := by decide +kernel
theorem dX4_append_30 : decode cX4_append 30 = .ok (.putfield 37, 3) := by decide +kernel
theorem dX4_append_33 : decode cX4_append 33 = .ok (.aload_n 0, 1) := by decide +kernel
theorem dX4_append_34 : decode cX4_append 34 = .ok (.getfield 37, 3) := by decide +kernel
theorem dX4_append_37 : decode cX4_append 37 = .ok (.ifCond .le 5, 3) := by decide +kernel
theorem dX4_append_40 : decode cX4_append 40 = .ok (.iconst 0, 1) := by decide +kernel
theorem dX4_append_41 : decode cX4_append 41 = .ok (.ireturn, 1) := by decide +kernel
theorem dX4_append_42 : decode cX4_append 42 = .ok (.aload_n 0, 1) := by decide +kernel
theorem dX4_append_43 : decode cX4_append 43 = .ok (.getfield 19, 3) := by decide +kernel
theorem dX4_append_46 : decode cX4_append 46 = .ok (.aload_n 0, 1) := by decide +kernel
theorem dX4_append_47 : decode cX4_append 47 = .ok (.getfield 138, 3) := by decide +kernel
theorem dX4_append_50 : decode cX4_append 50 = .ok (.iload_n 1, 1) := by decide +kernel
theorem dX4_append_51 : decode cX4_append 51 = .ok (.iastore, 1) := by decide +kernel
theorem dX4_append_52 : decode cX4_append 52 = .ok (.aload_n 0, 1) := by decide +kernel
theorem dX4_append_53 : decode cX4_append 53 = .ok (.dup, 1) := by decide +kernel
theorem dX4_append_54 : decode cX4_append 54 = .ok (.getfield 138, 3) := by decide +kernel
theorem dX4_append_57 : decode cX4_append 57 = .ok (.iconst 1, 1) := by decide +kernel
theorem dX4_append_58 : decode cX4_append 58 = .ok (.iadd, 1) := by decide +kernel
theorem dX4_append_59 : decode cX4_append 59 = .ok (.putfield 138, 3) := by decide +kernel
theorem dX4_append_62 : decode cX4_append 62 = .ok (.aload_n 0, 1) := by decide +kernel
theorem dX4_append_63 : decode cX4_append 63 = .ok (.getfield 138, 3) := by decide +kernel
theorem dX4_append_66 : decode cX4_append 66 = .ok (.ireturn, 1) := by decide +kernel
theorem dX4_clearBuffer_0 : decode cX4_clearBuffer 0 = .ok (.aload_n 0, 1) := by decide +kernel
theorem dX4_clearBuffer_1 : decode cX4_clearBuffer 1 = .ok (.iconst 0, 1) := by decide +kernel
theorem dX4_clearBuffer_2 : decode cX4_clearBuffer 2 = .ok (.putfield 37, 3) := by decide +kernel
theorem dX4_clearBuffer_5 : decode cX4_clearBuffer 5 = .ok (.aload_n 0, 1) := by decide +kernel
theorem dX4_clearBuffer_6 : decode cX4_clearBuffer 6 = .ok (.getfield 138, 3) := by decide +kernel
theorem dX4_clearBuffer_9 : decode cX4_clearBuffer 9 = .ok (.istore_n 1, 1) := by decide +kernel
theorem dX4_clearBuffer_10 : decode cX4_clearBuffer 10 = .ok (.aload_n 0, 1) := by decide +kernel
theorem dX4_clearBuffer_11 : decode cX4_clearBuffer 11 = .ok (.iconst 0, 1) := by decide +kernel
theorem dX4_clearBuffer_12 : decode cX4_clearBuffer 12 = .ok (.putfield 138, 3) := by decide +kernel
theorem dX4_clearBuffer_15 : decode cX4_clearBuffer 15 = .ok (.iload_n 1, 1) := by decide +kernel
theorem dX4_clearBuffer_16 : decode cX4_clearBuffer 16 = .ok (.ireturn, 1) := by decide +kernel
theorem dX4_isScopeLetter_0 : decode cX4_isScopeLetter 0 = .ok (.iload_n 0, 1) := by decide +kernel
theorem dX4_isScopeLetter_1 : decode cX4_isScopeLetter 1 = .ok (.bipush 65, 2) := by decide +kernel
theorem dX4_isScopeLetter_3 : decode cX4_isScopeLetter 3 = .ok (.bipush 80, 2) := by decide +kernel
theorem dX4_isScopeLetter_5 : decode cX4_isScopeLetter 5 = .ok (.invokestatic 41, 3) := by decide +kernel
theorem dX4_isScopeLetter_8 : decode cX4_isScopeLetter 8 = .ok (.ireturn, 1) := by decide +kernel
theorem dX4_isNameLetter_0 : decode cX4_isNameLetter 0 = .ok (.iload_n 0, 1) := by decide +kernel
theorem dX4_isNameLetter_1 : decode cX4_isNameLetter 1 = .ok (.bipush 97, 2) := by decide +kernel
theorem dX4_isNameLetter_3 : decode cX4_isNameLetter 3 = .ok (.bipush 122, 2) := by decide +kernel
theorem dX4_isNameLetter_5 : decode cX4_isNameLetter 5 = .ok (.invokestatic 41, 3) := by decide +kernel
theorem dX4_isNameLetter_8 : decode cX4_isNameLetter 8 = .ok (.ireturn, 1) := by decide +kernel
theorem dX4_goes_0 : decode cX4_goes 0 = .ok (.aload_n 0, 1) := by decide +kernel
theorem dX4_goes_1 : decode cX4_goes 1 = .ok (.iload_n 1, 1) := by decide +kernel
theorem dX4_goes_2 : decode cX4_goes 2 = .ok (.ifCond .eq 7, 3) := by decide +kernel
theorem dX4_goes_5 : decode cX4_goes 5 = .ok (.iload_n 2, 1) := by decide +kernel
theorem dX4_goes_6 : decode cX4_goes 6 = .ok (.goto 7, 3) := by decide +kernel
theorem dX4_goes_9 : decode cX4_goes 9 = .ok (.aload_n 0, 1) := by decide +kernel
theorem dX4_goes_10 : decode cX4_goes 10 = .ok (.getfield 141, 3) := by decide +kernel
theorem dX4_goes_13 : decode cX4_goes 13 = .ok (.putfield 141, 3) := by decide +kernel
theorem dX4_goes_16 : decode cX4_goes 16 = .ok (.iload_n 1, 1) := by decide +kernel
theorem dX4_goes_17 : decode cX4_goes 17 = .ok (.ireturn, 1) := by decide +kernel
theorem dX4_canEnd_0 : decode cX4_canEnd 0 = .ok (.aload_n 0, 1) := by decide +kernel
theorem dX4_canEnd_1 : decode cX4_canEnd 1 = .ok (.getfield 141, 3) := by decide +kernel
theorem dX4_canEnd_4 : decode cX4_canEnd 4 = .ok (.iconst 5, 1) := by decide +kernel
theorem dX4_canEnd_5 : decode cX4_canEnd 5 = .ok (.if_icmp .eq 21, 3) := by decide +kernel
theorem dX4_canEnd_8 : decode cX4_canEnd 8 = .ok (.aload_n 0, 1) := by decide +kernel
theorem dX4_canEnd_9 : decode cX4_canEnd 9 = .ok (.getfield 141, 3) := by decide +kernel
theorem dX4_canEnd_12 : decode cX4_canEnd 12 = .ok (.bipush 7, 2) := by decide +kernel
theorem dX4_canEnd_14 : decode cX4_canEnd 14 = .ok (.if_icmp .eq 12, 3) := by decide +kernel
theorem dX4_canEnd_17 : decode cX4_canEnd 17 = .ok (.aload_n 0, 1) := by decide +kernel
theorem dX4_canEnd_18 : decode cX4_canEnd 18 = .ok (.getfield 141, 3) := by decide +kernel
theorem dX4_canEnd_21 : decode cX4_canEnd 21 = .ok (.bipush 10, 2) := by decide +kernel
theorem dX4_canEnd_23 : decode cX4_canEnd 23 = .ok (.if_icmp .lt 7, 3) := by decide +kernel
theorem dX4_canEnd_26 : decode cX4_canEnd 26 = .ok (.iconst 1, 1) := by decide +kernel
theorem dX4_canEnd_27 : decode cX4_canEnd 27 = .ok (.goto 4, 3) := by decide +kernel
theorem dX4_canEnd_30 : decode cX4_canEnd 30 = .ok (.iconst 0, 1) := by decide +kernel
theorem dX4_canEnd_31 : decode cX4_canEnd 31 = .ok (.ireturn, 1) := by decide +kernel
theorem dX4_takesSign_0 : decode cX4_takesSign 0 = .ok (.iload_n 1, 1) := by decide +kernel
theorem dX4_takesSign_1 : decode cX4_takesSign 1 = .ok (.bipush 94, 2) := by decide +kernel
theorem dX4_takesSign_3 : decode cX4_takesSign 3 = .ok (.if_icmp .eq 27, 3) := by decide +kernel
theorem dX4_takesSign_6 : decode cX4_takesSign 6 = .ok (.iload_n 1, 1) := by decide +kernel
theorem dX4_takesSign_7 : decode cX4_takesSign 7 = .ok (.bipush 46, 2) := by decide +kernel
theorem dX4_takesSign_9 : decode cX4_takesSign 9 = .ok (.if_icmp .eq 21, 3) := by decide +kernel
theorem dX4_takesSign_12 : decode cX4_takesSign 12 = .ok (.iload_n 1, 1) := by decide +kernel
theorem dX4_takesSign_13 : decode cX4_takesSign 13 = .ok (.bipush 45, 2) := by decide +kernel
theorem dX4_takesSign_15 : decode cX4_takesSign 15 = .ok (.if_icmp .eq 15, 3) := by decide +kernel
theorem dX4_takesSign_18 : decode cX4_takesSign 18 = .ok (.iload_n 1, 1) := by decide +kernel
theorem dX4_takesSign_19 : decode cX4_takesSign 19 = .ok (.bipush 63, 2) := by decide +kernel
theorem dX4_takesSign_21 : decode cX4_takesSign 21 = .ok (.if_icmp .eq 9, 3) := by decide +kernel
theorem dX4_takesSign_24 : decode cX4_takesSign 24 = .ok (.iload_n 1, 1) := by decide +kernel
theorem dX4_takesSign_25 : decode cX4_takesSign 25 = .ok (.bipush 60, 2) := by decide +kernel
theorem dX4_takesSign_27 : decode cX4_takesSign 27 = .ok (.if_icmp .ne 7, 3) := by decide +kernel
theorem dX4_takesSign_30 : decode cX4_takesSign 30 = .ok (.iconst 1, 1) := by decide +kernel
theorem dX4_takesSign_31 : decode cX4_takesSign 31 = .ok (.goto 4, 3) := by decide +kernel
theorem dX4_takesSign_34 : decode cX4_takesSign 34 = .ok (.iconst 0, 1) := by decide +kernel
theorem dX4_takesSign_35 : decode cX4_takesSign 35 = .ok (.istore_n 2, 1) := by decide +kernel
theorem dX4_takesSign_36 : decode cX4_takesSign 36 = .ok (.iload_n 2, 1) := by decide +kernel
theorem dX4_takesSign_37 : decode cX4_takesSign 37 = .ok (.ifCond .eq 54, 3) := by decide +kernel
theorem dX4_takesSign_40 : decode cX4_takesSign 40 = .ok (.aload_n 0, 1) := by decide +kernel
theorem dX4_takesSign_41 : decode cX4_takesSign 41 = .ok (.iload_n 1, 1) := by decide +kernel
theorem dX4_takesSign_42 : decode cX4_takesSign 42 = .ok (.putfield 144, 3) := by decide +kernel
theorem dX4_takesSign_45 : decode cX4_takesSign 45 = .ok (.aload_n 0, 1) := by decide +kernel
theorem dX4_takesSign_46 : decode cX4_takesSign 46 = .ok (.iconst 0, 1) := by decide +kernel
theorem dX4_takesSign_47 : decode cX4_takesSign 47 = .ok (.putfield 147, 3) := by decide +kernel
theorem dX4_takesSign_50 : decode cX4_takesSign 50 = .ok (.aload_n 0, 1) := by decide +kernel
theorem dX4_takesSign_51 : decode cX4_takesSign 51 = .ok (.iconst (-1), 1) := by decide +kernel
theorem dX4_takesSign_52 : decode cX4_takesSign 52 = .ok (.putfield 150, 3) := by decide +kernel
theorem dX4_takesSign_55 : decode cX4_takesSign 55 = .ok (.aload_n 0, 1) := by decide +kernel
theorem dX4_takesSign_56 : decode cX4_takesSign 56 = .ok (.iconst (-1), 1) := by decide +kernel
theorem dX4_takesSign_57 : decode cX4_takesSign 57 = .ok (.putfield 153, 3) := by decide +kernel
theorem dX4_takesSign_60 : decode cX4_takesSign 60 = .ok (.aload_n 0, 1) := by decide +kernel
theorem dX4_takesSign_61 : decode cX4_takesSign 61 = .ok (.iconst 0, 1) := by decide +kernel
theorem dX4_takesSign_62 : decode cX4_takesSign 62 = .ok (.putfield 156, 3) := by decide +kernel
theorem dX4_takesSign_65 : decode cX4_takesSign 65 = .ok (.aload_n 0, 1) := by decide +kernel
theorem dX4_takesSign_66 : decode cX4_takesSign 66 = .ok (.iload_n 1, 1) := by decide +kernel
theorem dX4_takesSign_67 : decode cX4_takesSign 67 = .ok (.bipush 94, 2) := by decide +kernel
theorem dX4_takesSign_69 : decode cX4_takesSign 69 = .ok (.if_icmp .ne 8, 3) := by decide +kernel
theorem dX4_takesSign_72 : decode cX4_takesSign 72 = .ok (.bipush 11, 2) := by decide +kernel
theorem dX4_takesSign_74 : decode cX4_takesSign 74 = .ok (.goto 14, 3) := by decide +kernel
theorem dX4_takesSign_77 : decode cX4_takesSign 77 = .ok (.iload_n 1, 1) := by decide +kernel
theorem dX4_takesSign_78 : decode cX4_takesSign 78 = .ok (.bipush 60, 2) := by decide +kernel
theorem dX4_takesSign_80 : decode cX4_takesSign 80 = .ok (.if_icmp .ne 7, 3) := by decide +kernel
theorem dX4_takesSign_83 : decode cX4_takesSign 83 = .ok (.iconst 3, 1) := by decide +kernel
theorem dX4_takesSign_84 : decode cX4_takesSign 84 = .ok (.goto 4, 3) := by decide +kernel
theorem dX4_takesSign_87 : decode cX4_takesSign 87 = .ok (.iconst 2, 1) := by decide +kernel
theorem dX4_takesSign_88 : decode cX4_takesSign 88 = .ok (.putfield 141, 3) := by decide +kernel
theorem dX4_takesSign_91 : decode cX4_takesSign 91 = .ok (.iload_n 2, 1) := by decide +kernel
theorem dX4_takesSign_92 : decode cX4_takesSign 92 = .ok (.ireturn, 1) := by decide +kernel
theorem dX4_takesFrom_0 : decode cX4_takesFrom 0 = .ok (.aload_n 0, 1) := by decide +kernel
theorem dX4_takesFrom_1 : decode cX4_takesFrom 1 = .ok (.getfield 141, 3) := by decide +kernel
theorem dX4_takesFrom_4 : decode cX4_takesFrom 4 = .ok (.iconst 3, 1) := by decide +kernel
theorem dX4_takesFrom_5 : decode cX4_takesFrom 5 = .ok (.if_icmp .ne 21, 3) := by decide +kernel
theorem dX4_takesFrom_8 : decode cX4_takesFrom 8 = .ok (.iload_n 1, 1) := by decide +kernel
theorem dX4_takesFrom_9 : decode cX4_takesFrom 9 = .ok (.bipush 60, 2) := by decide +kernel
theorem dX4_takesFrom_11 : decode cX4_takesFrom 11 = .ok (.if_icmp .ne 15, 3) := by decide +kernel
theorem dX4_takesFrom_14 : decode cX4_takesFrom 14 = .ok (.aload_n 0, 1) := by decide +kernel
theorem dX4_takesFrom_15 : decode cX4_takesFrom 15 = .ok (.iconst 1, 1) := by decide +kernel
theorem dX4_takesFrom_16 : decode cX4_takesFrom 16 = .ok (.putfield 147, 3) := by decide +kernel
theorem dX4_takesFrom_19 : decode cX4_takesFrom 19 = .ok (.aload_n 0, 1) := by decide +kernel
theorem dX4_takesFrom_20 : decode cX4_takesFrom 20 = .ok (.iconst 1, 1) := by decide +kernel
theorem dX4_takesFrom_21 : decode cX4_takesFrom 21 = .ok (.iconst 4, 1) := by decide +kernel
theorem dX4_takesFrom_22 : decode cX4_takesFrom 22 = .ok (.invokevirtual 159, 3) := by decide +kernel
theorem dX4_takesFrom_25 : decode cX4_takesFrom 25 = .ok (.ireturn, 1) := by decide +kernel
theorem dX4_takesFrom_26 : decode cX4_takesFrom 26 = .ok (.aload_n 0, 1) := by decide +kernel
theorem dX4_takesFrom_27 : decode cX4_takesFrom 27 = .ok (.iload_n 1, 1) := by decide +kernel
theorem dX4_takesFrom_28 : decode cX4_takesFrom 28 = .ok (.invokestatic 163, 3) := by decide +kernel
theorem dX4_takesFrom_31 : decode cX4_takesFrom 31 = .ok (.ifCond .eq 10, 3) := by decide +kernel
theorem dX4_takesFrom_34 : decode cX4_takesFrom 34 = .ok (.iload_n 1, 1) := by decide +kernel
theorem dX4_takesFrom_35 : decode cX4_takesFrom 35 = .ok (.bipush 65, 2) := by decide +kernel
theorem dX4_takesFrom_37 : decode cX4_takesFrom 37 = .ok (.isub, 1) := by decide +kernel
theorem dX4_takesFrom_38 : decode cX4_takesFrom 38 = .ok (.goto 7, 3) := by decide +kernel
theorem dX4_takesFrom_41 : decode cX4_takesFrom 41 = .ok (.aload_n 0, 1) := by decide +kernel
theorem dX4_takesFrom_42 : decode cX4_takesFrom 42 = .ok (.getfield 166, 3) := by decide +kernel
theorem dX4_takesFrom_45 : decode cX4_takesFrom 45 = .ok (.putfield 166, 3) := by decide +kernel
theorem dX4_takesFrom_48 : decode cX4_takesFrom 48 = .ok (.aload_n 0, 1) := by decide +kernel
theorem dX4_takesFrom_49 : decode cX4_takesFrom 49 = .ok (.iload_n 1, 1) := by decide +kernel
theorem dX4_takesFrom_50 : decode cX4_takesFrom 50 = .ok (.invokestatic 163, 3) := by decide +kernel
theorem dX4_takesFrom_53 : decode cX4_takesFrom 53 = .ok (.iconst 5, 1) := by decide +kernel
theorem dX4_takesFrom_54 : decode cX4_takesFrom 54 = .ok (.invokevirtual 159, 3) := by decide +kernel
theorem dX4_takesFrom_57 : decode cX4_takesFrom 57 = .ok (.ireturn, 1) := by decide +kernel
theorem dX4_takesName_0 : decode cX4_takesName 0 = .ok (.iload_n 1, 1) := by decide +kernel
theorem dX4_takesName_1 : decode cX4_takesName 1 = .ok (.invokestatic 169, 3) := by decide +kernel
theorem dX4_takesName_4 : decode cX4_takesName 4 = .ok (.istore_n 2, 1) := by decide +kernel
theorem dX4_takesName_5 : decode cX4_takesName 5 = .ok (.iload_n 2, 1) := by decide +kernel
theorem dX4_takesName_6 : decode cX4_takesName 6 = .ok (.ifCond .eq 23, 3) := by decide +kernel
theorem dX4_takesName_9 : decode cX4_takesName 9 = .ok (.aload_n 0, 1) := by decide +kernel
theorem dX4_takesName_10 : decode cX4_takesName 10 = .ok (.getfield 141, 3) := by decide +kernel
theorem dX4_takesName_13 : decode cX4_takesName 13 = .ok (.bipush 8, 2) := by decide +kernel
theorem dX4_takesName_15 : decode cX4_takesName 15 = .ok (.if_icmp .ne 14, 3) := by decide +kernel
theorem dX4_takesName_18 : decode cX4_takesName 18 = .ok (.aload_n 0, 1) := by decide +kernel
theorem dX4_takesName_19 : decode cX4_takesName 19 = .ok (.iload_n 1, 1) := by decide +kernel
theorem dX4_takesName_20 : decode cX4_takesName 20 = .ok (.bipush 97, 2) := by decide +kernel
theorem dX4_takesName_22 : decode cX4_takesName 22 = .ok (.isub, 1) := by decide +kernel
theorem dX4_takesName_23 : decode cX4_takesName 23 = .ok (.putfield 153, 3) := by decide +kernel
theorem dX4_takesName_26 : decode cX4_takesName 26 = .ok (.goto 46, 3) := by decide +kernel
theorem dX4_takesName_29 : decode cX4_takesName 29 = .ok (.iload_n 2, 1) := by decide +kernel
theorem dX4_takesName_30 : decode cX4_takesName 30 = .ok (.ifCond .eq 30, 3) := by decide +kernel
theorem dX4_takesName_33 : decode cX4_takesName 33 = .ok (.aload_n 0, 1) := by decide +kernel
theorem dX4_takesName_34 : decode cX4_takesName 34 = .ok (.getfield 141, 3) := by decide +kernel
theorem dX4_takesName_37 : decode cX4_takesName 37 = .ok (.bipush 9, 2) := by decide +kernel
theorem dX4_takesName_39 : decode cX4_takesName 39 = .ok (.if_icmp .lt 21, 3) := by decide +kernel
theorem dX4_takesName_42 : decode cX4_takesName 42 = .ok (.aload_n 0, 1) := by decide +kernel
theorem dX4_takesName_43 : decode cX4_takesName 43 = .ok (.dup, 1) := by decide +kernel
theorem dX4_takesName_44 : decode cX4_takesName 44 = .ok (.getfield 156, 3) := by decide +kernel
theorem dX4_takesName_47 : decode cX4_takesName 47 = .ok (.iconst 1, 1) := by decide +kernel
theorem dX4_takesName_48 : decode cX4_takesName 48 = .ok (.iload_n 1, 1) := by decide +kernel
theorem dX4_takesName_49 : decode cX4_takesName 49 = .ok (.bipush 97, 2) := by decide +kernel
theorem dX4_takesName_51 : decode cX4_takesName 51 = .ok (.isub, 1) := by decide +kernel
theorem dX4_takesName_52 : decode cX4_takesName 52 = .ok (.ishl, 1) := by decide +kernel
theorem dX4_takesName_53 : decode cX4_takesName 53 = .ok (.ior, 1) := by decide +kernel
theorem dX4_takesName_54 : decode cX4_takesName 54 = .ok (.putfield 156, 3) := by decide +kernel
theorem dX4_takesName_57 : decode cX4_takesName 57 = .ok (.goto 15, 3) := by decide +kernel
theorem dX4_takesName_60 : decode cX4_takesName 60 = .ok (.iload_n 2, 1) := by decide +kernel
theorem dX4_takesName_61 : decode cX4_takesName 61 = .ok (.ifCond .eq 11, 3) := by decide +kernel
theorem dX4_takesName_64 : decode cX4_takesName 64 = .ok (.aload_n 0, 1) := by decide +kernel
theorem dX4_takesName_65 : decode cX4_takesName 65 = .ok (.iload_n 1, 1) := by decide +kernel
theorem dX4_takesName_66 : decode cX4_takesName 66 = .ok (.bipush 97, 2) := by decide +kernel
theorem dX4_takesName_68 : decode cX4_takesName 68 = .ok (.isub, 1) := by decide +kernel
theorem dX4_takesName_69 : decode cX4_takesName 69 = .ok (.putfield 150, 3) := by decide +kernel
theorem dX4_takesName_72 : decode cX4_takesName 72 = .ok (.aload_n 0, 1) := by decide +kernel
theorem dX4_takesName_73 : decode cX4_takesName 73 = .ok (.iload_n 2, 1) := by decide +kernel
theorem dX4_takesName_74 : decode cX4_takesName 74 = .ok (.aload_n 0, 1) := by decide +kernel
theorem dX4_takesName_75 : decode cX4_takesName 75 = .ok (.getfield 141, 3) := by decide +kernel
theorem dX4_takesName_78 : decode cX4_takesName 78 = .ok (.bipush 6, 2) := by decide +kernel
theorem dX4_takesName_80 : decode cX4_takesName 80 = .ok (.if_icmp .ne 8, 3) := by decide +kernel
theorem dX4_takesName_83 : decode cX4_takesName 83 = .ok (.bipush 7, 2) := by decide +kernel
theorem dX4_takesName_85 : decode cX4_takesName 85 = .ok (.goto 19, 3) := by decide +kernel
theorem dX4_takesName_88 : decode cX4_takesName 88 = .ok (.aload_n 0, 1) := by decide +kernel
theorem dX4_takesName_89 : decode cX4_takesName 89 = .ok (.getfield 141, 3) := by decide +kernel
theorem dX4_takesName_92 : decode cX4_takesName 92 = .ok (.bipush 9, 2) := by decide +kernel
theorem dX4_takesName_94 : decode cX4_takesName 94 = .ok (.if_icmp .lt 8, 3) := by decide +kernel
theorem dX4_takesName_97 : decode cX4_takesName 97 = .ok (.bipush 10, 2) := by decide +kernel
theorem dX4_takesName_99 : decode cX4_takesName 99 = .ok (.goto 5, 3) := by decide +kernel
theorem dX4_takesName_102 : decode cX4_takesName 102 = .ok (.bipush 11, 2) := by decide +kernel
theorem dX4_takesName_104 : decode cX4_takesName 104 = .ok (.invokevirtual 159, 3) := by decide +kernel
theorem dX4_takesName_107 : decode cX4_takesName 107 = .ok (.ireturn, 1) := by decide +kernel
theorem dX4_takes_0 : decode cX4_takes 0 = .ok (.iload_n 1, 1) := by decide +kernel
theorem dX4_takes_1 : decode cX4_takes 1 = .ok (.bipush 44, 2) := by decide +kernel
theorem dX4_takes_3 : decode cX4_takes 3 = .ok (.if_icmp .ne 16, 3) := by decide +kernel
theorem dX4_takes_6 : decode cX4_takes 6 = .ok (.aload_n 0, 1) := by decide +kernel
theorem dX4_takes_7 : decode cX4_takes 7 = .ok (.invokevirtual 172, 3) := by decide +kernel
theorem dX4_takes_10 : decode cX4_takes 10 = .ok (.ifCond .eq 9, 3) := by decide +kernel
theorem dX4_takes_13 : decode cX4_takes 13 = .ok (.aload_n 0, 1) := by decide +kernel
theorem dX4_takes_14 : decode cX4_takes 14 = .ok (.invokevirtual 175, 3) := by decide +kernel
theorem dX4_takes_17 : decode cX4_takes 17 = .ok (.iconst 1, 1) := by decide +kernel
theorem dX4_takes_18 : decode cX4_takes 18 = .ok (.ireturn, 1) := by decide +kernel
theorem dX4_takes_19 : decode cX4_takes 19 = .ok (.aload_n 0, 1) := by decide +kernel
theorem dX4_takes_20 : decode cX4_takes 20 = .ok (.getfield 141, 3) := by decide +kernel
theorem dX4_takes_23 : decode cX4_takes 23 = .ok (.tableswitch 171 0 11 #[61, 93, 171, 99, 99, 105, 171, 151, 171, 171, 171, 169], 61) := by decide +kernel
theorem dX4_takes_84 : decode cX4_takes 84 = .ok (.aload_n 0, 1) := by decide +kernel
theorem dX4_takes_85 : decode cX4_takes 85 = .ok (.iload_n 1, 1) := by decide +kernel
theorem dX4_takes_86 : decode cX4_takes 86 = .ok (.invokestatic 163, 3) := by decide +kernel
theorem dX4_takes_89 : decode cX4_takes 89 = .ok (.ifCond .eq 10, 3) := by decide +kernel
theorem dX4_takes_92 : decode cX4_takes 92 = .ok (.iload_n 1, 1) := by decide +kernel
theorem dX4_takes_93 : decode cX4_takes 93 = .ok (.bipush 65, 2) := by decide +kernel
theorem dX4_takes_95 : decode cX4_takes 95 = .ok (.isub, 1) := by decide +kernel
theorem dX4_takes_96 : decode cX4_takes 96 = .ok (.goto 7, 3) := by decide +kernel
theorem dX4_takes_99 : decode cX4_takes 99 = .ok (.aload_n 0, 1) := by decide +kernel
theorem dX4_takes_100 : decode cX4_takes 100 = .ok (.getfield 178, 3) := by decide +kernel
theorem dX4_takes_103 : decode cX4_takes 103 = .ok (.putfield 178, 3) := by decide +kernel
theorem dX4_takes_106 : decode cX4_takes 106 = .ok (.aload_n 0, 1) := by decide +kernel
theorem dX4_takes_107 : decode cX4_takes 107 = .ok (.iload_n 1, 1) := by decide +kernel
theorem dX4_takes_108 : decode cX4_takes 108 = .ok (.invokestatic 163, 3) := by decide +kernel
theorem dX4_takes_111 : decode cX4_takes 111 = .ok (.iconst 1, 1) := by decide +kernel
theorem dX4_takes_112 : decode cX4_takes 112 = .ok (.invokevirtual 159, 3) := by decide +kernel
theorem dX4_takes_115 : decode cX4_takes 115 = .ok (.ireturn, 1) := by decide +kernel
theorem dX4_takes_116 : decode cX4_takes 116 = .ok (.aload_n 0, 1) := by decide +kernel
theorem dX4_takes_117 : decode cX4_takes 117 = .ok (.iload_n 1, 1) := by decide +kernel
theorem dX4_takes_118 : decode cX4_takes 118 = .ok (.invokevirtual 181, 3) := by decide +kernel
theorem dX4_takes_121 : decode cX4_takes 121 = .ok (.ireturn, 1) := by decide +kernel
theorem dX4_takes_122 : decode cX4_takes 122 = .ok (.aload_n 0, 1) := by decide +kernel
theorem dX4_takes_123 : decode cX4_takes 123 = .ok (.iload_n 1, 1) := by decide +kernel
theorem dX4_takes_124 : decode cX4_takes 124 = .ok (.invokevirtual 184, 3) := by decide +kernel
theorem dX4_takes_127 : decode cX4_takes 127 = .ok (.ireturn, 1) := by decide +kernel
theorem dX4_takes_128 : decode cX4_takes 128 = .ok (.aload_n 0, 1) := by decide +kernel
theorem dX4_takes_129 : decode cX4_takes 129 = .ok (.iload_n 1, 1) := by decide +kernel
theorem dX4_takes_130 : decode cX4_takes 130 = .ok (.bipush 46, 2) := by decide +kernel
theorem dX4_takes_132 : decode cX4_takes 132 = .ok (.if_icmp .ne 7, 3) := by decide +kernel
theorem dX4_takes_135 : decode cX4_takes 135 = .ok (.iconst 1, 1) := by decide +kernel
theorem dX4_takes_136 : decode cX4_takes 136 = .ok (.goto 4, 3) := by decide +kernel
theorem dX4_takes_139 : decode cX4_takes 139 = .ok (.iconst 0, 1) := by decide +kernel
theorem dX4_takes_140 : decode cX4_takes 140 = .ok (.bipush 6, 2) := by decide +kernel
theorem dX4_takes_142 : decode cX4_takes 142 = .ok (.invokevirtual 159, 3) := by decide +kernel
theorem dX4_takes_145 : decode cX4_takes 145 = .ok (.ifCond .ne 23, 3) := by decide +kernel
theorem dX4_takes_148 : decode cX4_takes 148 = .ok (.aload_n 0, 1) := by decide +kernel
theorem dX4_takes_149 : decode cX4_takes 149 = .ok (.iload_n 1, 1) := by decide +kernel
theorem dX4_takes_150 : decode cX4_takes 150 = .ok (.bipush 47, 2) := by decide +kernel
theorem dX4_takes_152 : decode cX4_takes 152 = .ok (.if_icmp .ne 7, 3) := by decide +kernel
theorem dX4_takes_155 : decode cX4_takes 155 = .ok (.iconst 1, 1) := by decide +kernel
theorem dX4_takes_156 : decode cX4_takes 156 = .ok (.goto 4, 3) := by decide +kernel
theorem dX4_takes_159 : decode cX4_takes 159 = .ok (.iconst 0, 1) := by decide +kernel
theorem dX4_takes_160 : decode cX4_takes 160 = .ok (.bipush 9, 2) := by decide +kernel
theorem dX4_takes_162 : decode cX4_takes 162 = .ok (.invokevirtual 159, 3) := by decide +kernel
theorem dX4_takes_165 : decode cX4_takes 165 = .ok (.ifCond .eq 7, 3) := by decide +kernel
theorem dX4_takes_168 : decode cX4_takes 168 = .ok (.iconst 1, 1) := by decide +kernel
theorem dX4_takes_169 : decode cX4_takes 169 = .ok (.goto 4, 3) := by decide +kernel
theorem dX4_takes_172 : decode cX4_takes 172 = .ok (.iconst 0, 1) := by decide +kernel
theorem dX4_takes_173 : decode cX4_takes 173 = .ok (.ireturn, 1) := by decide +kernel
theorem dX4_takes_174 : decode cX4_takes 174 = .ok (.aload_n 0, 1) := by decide +kernel
theorem dX4_takes_175 : decode cX4_takes 175 = .ok (.iload_n 1, 1) := by decide +kernel
theorem dX4_takes_176 : decode cX4_takes 176 = .ok (.bipush 61, 2) := by decide +kernel
theorem dX4_takes_178 : decode cX4_takes 178 = .ok (.if_icmp .ne 7, 3) := by decide +kernel
theorem dX4_takes_181 : decode cX4_takes 181 = .ok (.iconst 1, 1) := by decide +kernel
theorem dX4_takes_182 : decode cX4_takes 182 = .ok (.goto 4, 3) := by decide +kernel
theorem dX4_takes_185 : decode cX4_takes 185 = .ok (.iconst 0, 1) := by decide +kernel
theorem dX4_takes_186 : decode cX4_takes 186 = .ok (.bipush 8, 2) := by decide +kernel
theorem dX4_takes_188 : decode cX4_takes 188 = .ok (.invokevirtual 159, 3) := by decide +kernel
theorem dX4_takes_191 : decode cX4_takes 191 = .ok (.ireturn, 1) := by decide +kernel
theorem dX4_takes_192 : decode cX4_takes 192 = .ok (.iconst 0, 1) := by decide +kernel
theorem dX4_takes_193 : decode cX4_takes 193 = .ok (.ireturn, 1) := by decide +kernel
theorem dX4_takes_194 : decode cX4_takes 194 = .ok (.aload_n 0, 1) := by decide +kernel
theorem dX4_takes_195 : decode cX4_takes 195 = .ok (.iload_n 1, 1) := by decide +kernel
theorem dX4_takes_196 : decode cX4_takes 196 = .ok (.invokevirtual 187, 3) := by decide +kernel
theorem dX4_takes_199 : decode cX4_takes 199 = .ok (.ireturn, 1) := by decide +kernel
theorem dX4_endItem_0 : decode cX4_endItem 0 = .ok (.aload_n 0, 1) := by decide +kernel
theorem dX4_endItem_1 : decode cX4_endItem 1 = .ok (.dup, 1) := by decide +kernel
theorem dX4_endItem_2 : decode cX4_endItem 2 = .ok (.getfield 190, 3) := by decide +kernel
theorem dX4_endItem_5 : decode cX4_endItem 5 = .ok (.iconst 1, 1) := by decide +kernel
theorem dX4_endItem_6 : decode cX4_endItem 6 = .ok (.iadd, 1) := by decide +kernel
theorem dX4_endItem_7 : decode cX4_endItem 7 = .ok (.putfield 190, 3) := by decide +kernel
theorem dX4_endItem_10 : decode cX4_endItem 10 = .ok (.aload_n 0, 1) := by decide +kernel
theorem dX4_endItem_11 : decode cX4_endItem 11 = .ok (.iconst 0, 1) := by decide +kernel
theorem dX4_endItem_12 : decode cX4_endItem 12 = .ok (.putfield 141, 3) := by decide +kernel
theorem dX4_endItem_15 : decode cX4_endItem 15 = .ok (.aload_n 0, 1) := by decide +kernel
theorem dX4_endItem_16 : decode cX4_endItem 16 = .ok (.getfield 193, 3) := by decide +kernel
theorem dX4_endItem_19 : decode cX4_endItem 19 = .ok (.ifCond .eq 10, 3) := by decide +kernel
theorem dX4_endItem_22 : decode cX4_endItem 22 = .ok (.aload_n 0, 1) := by decide +kernel
theorem dX4_endItem_23 : decode cX4_endItem 23 = .ok (.getfield 196, 3) := by decide +kernel
theorem dX4_endItem_26 : decode cX4_endItem 26 = .ok (.ifCond .eq 4, 3) := by decide +kernel
theorem dX4_endItem_29 : decode cX4_endItem 29 = .ok (.return_, 1) := by decide +kernel
theorem dX4_endItem_30 : decode cX4_endItem 30 = .ok (.aload_n 0, 1) := by decide +kernel
theorem dX4_endItem_31 : decode cX4_endItem 31 = .ok (.getfield 144, 3) := by decide +kernel
theorem dX4_endItem_34 : decode cX4_endItem 34 = .ok (.bipush 94, 2) := by decide +kernel
theorem dX4_endItem_36 : decode cX4_endItem 36 = .ok (.if_icmp .ne 15, 3) := by decide +kernel
theorem dX4_endItem_39 : decode cX4_endItem 39 = .ok (.aload_n 0, 1) := by decide +kernel
theorem dX4_endItem_40 : decode cX4_endItem 40 = .ok (.aload_n 0, 1) := by decide +kernel
theorem dX4_endItem_41 : decode cX4_endItem 41 = .ok (.getfield 178, 3) := by decide +kernel
theorem dX4_endItem_44 : decode cX4_endItem 44 = .ok (.invokevirtual 199, 3) := by decide +kernel
theorem dX4_endItem_47 : decode cX4_endItem 47 = .ok (.pop, 1) := by decide +kernel
theorem dX4_endItem_48 : decode cX4_endItem 48 = .ok (.goto 148, 3) := by decide +kernel
theorem dX4_endItem_51 : decode cX4_endItem 51 = .ok (.aload_n 0, 1) := by decide +kernel
theorem dX4_endItem_52 : decode cX4_endItem 52 = .ok (.getfield 144, 3) := by decide +kernel
theorem dX4_endItem_55 : decode cX4_endItem 55 = .ok (.bipush 46, 2) := by decide +kernel
theorem dX4_endItem_57 : decode cX4_endItem 57 = .ok (.if_icmp .eq 12, 3) := by decide +kernel
theorem dX4_endItem_60 : decode cX4_endItem 60 = .ok (.aload_n 0, 1) := by decide +kernel
theorem dX4_endItem_61 : decode cX4_endItem 61 = .ok (.getfield 144, 3) := by decide +kernel
theorem dX4_endItem_64 : decode cX4_endItem 64 = .ok (.bipush 45, 2) := by decide +kernel
theorem dX4_endItem_66 : decode cX4_endItem 66 = .ok (.if_icmp .ne 33, 3) := by decide +kernel
theorem dX4_endItem_69 : decode cX4_endItem 69 = .ok (.aload_n 0, 1) := by decide +kernel
theorem dX4_endItem_70 : decode cX4_endItem 70 = .ok (.aload_n 0, 1) := by decide +kernel
theorem dX4_endItem_71 : decode cX4_endItem 71 = .ok (.getfield 178, 3) := by decide +kernel
theorem dX4_endItem_74 : decode cX4_endItem 74 = .ok (.aload_n 0, 1) := by decide +kernel
theorem dX4_endItem_75 : decode cX4_endItem 75 = .ok (.getfield 150, 3) := by decide +kernel
theorem dX4_endItem_78 : decode cX4_endItem 78 = .ok (.aload_n 0, 1) := by decide +kernel
theorem dX4_endItem_79 : decode cX4_endItem 79 = .ok (.getfield 144, 3) := by decide +kernel
theorem dX4_endItem_82 : decode cX4_endItem 82 = .ok (.bipush 46, 2) := by decide +kernel
theorem dX4_endItem_84 : decode cX4_endItem 84 = .ok (.if_icmp .ne 7, 3) := by decide +kernel
theorem dX4_endItem_87 : decode cX4_endItem 87 = .ok (.iconst 1, 1) := by decide +kernel
theorem dX4_endItem_88 : decode cX4_endItem 88 = .ok (.goto 4, 3) := by decide +kernel
theorem dX4_endItem_91 : decode cX4_endItem 91 = .ok (.iconst 0, 1) := by decide +kernel
theorem dX4_endItem_92 : decode cX4_endItem 92 = .ok (.invokevirtual 202, 3) := by decide +kernel
theorem dX4_endItem_95 : decode cX4_endItem 95 = .ok (.pop, 1) := by decide +kernel
theorem dX4_endItem_96 : decode cX4_endItem 96 = .ok (.goto 100, 3) := by decide +kernel
theorem dX4_endItem_99 : decode cX4_endItem 99 = .ok (.aload_n 0, 1) := by decide +kernel
theorem dX4_endItem_100 : decode cX4_endItem 100 = .ok (.getfield 144, 3) := by decide +kernel
theorem dX4_endItem_103 : decode cX4_endItem 103 = .ok (.bipush 63, 2) := by decide +kernel
theorem dX4_endItem_105 : decode cX4_endItem 105 = .ok (.if_icmp .ne 19, 3) := by decide +kernel
theorem dX4_endItem_108 : decode cX4_endItem 108 = .ok (.aload_n 0, 1) := by decide +kernel
theorem dX4_endItem_109 : decode cX4_endItem 109 = .ok (.aload_n 0, 1) := by decide +kernel
theorem dX4_endItem_110 : decode cX4_endItem 110 = .ok (.getfield 178, 3) := by decide +kernel
theorem dX4_endItem_113 : decode cX4_endItem 113 = .ok (.aload_n 0, 1) := by decide +kernel
theorem dX4_endItem_114 : decode cX4_endItem 114 = .ok (.getfield 150, 3) := by decide +kernel
theorem dX4_endItem_117 : decode cX4_endItem 117 = .ok (.invokevirtual 205, 3) := by decide +kernel
theorem dX4_endItem_120 : decode cX4_endItem 120 = .ok (.pop, 1) := by decide +kernel
theorem dX4_endItem_121 : decode cX4_endItem 121 = .ok (.goto 75, 3) := by decide +kernel
theorem dX4_endItem_124 : decode cX4_endItem 124 = .ok (.aload_n 0, 1) := by decide +kernel
theorem dX4_endItem_125 : decode cX4_endItem 125 = .ok (.getfield 150, 3) := by decide +kernel
theorem dX4_endItem_128 : decode cX4_endItem 128 = .ok (.iconst (-1), 1) := by decide +kernel
theorem dX4_endItem_129 : decode cX4_endItem 129 = .ok (.if_icmp .eq 46, 3) := by decide +kernel
theorem dX4_endItem_132 : decode cX4_endItem 132 = .ok (.aload_n 0, 1) := by decide +kernel
theorem dX4_endItem_133 : decode cX4_endItem 133 = .ok (.aload_n 0, 1) := by decide +kernel
theorem dX4_endItem_134 : decode cX4_endItem 134 = .ok (.getfield 178, 3) := by decide +kernel
theorem dX4_endItem_137 : decode cX4_endItem 137 = .ok (.aload_n 0, 1) := by decide +kernel
theorem dX4_endItem_138 : decode cX4_endItem 138 = .ok (.getfield 166, 3) := by decide +kernel
theorem dX4_endItem_141 : decode cX4_endItem 141 = .ok (.aload_n 0, 1) := by decide +kernel
theorem dX4_endItem_142 : decode cX4_endItem 142 = .ok (.getfield 150, 3) := by decide +kernel
theorem dX4_endItem_145 : decode cX4_endItem 145 = .ok (.aload_n 0, 1) := by decide +kernel
theorem dX4_endItem_146 : decode cX4_endItem 146 = .ok (.getfield 153, 3) := by decide +kernel
theorem dX4_endItem_149 : decode cX4_endItem 149 = .ok (.iconst (-1), 1) := by decide +kernel
theorem dX4_endItem_150 : decode cX4_endItem 150 = .ok (.if_icmp .ne 10, 3) := by decide +kernel
theorem dX4_endItem_153 : decode cX4_endItem 153 = .ok (.aload_n 0, 1) := by decide +kernel
theorem dX4_endItem_154 : decode cX4_endItem 154 = .ok (.getfield 150, 3) := by decide +kernel
theorem dX4_endItem_157 : decode cX4_endItem 157 = .ok (.goto 7, 3) := by decide +kernel
theorem dX4_endItem_160 : decode cX4_endItem 160 = .ok (.aload_n 0, 1) := by decide +kernel
theorem dX4_endItem_161 : decode cX4_endItem 161 = .ok (.getfield 153, 3) := by decide +kernel
theorem dX4_endItem_164 : decode cX4_endItem 164 = .ok (.aload_n 0, 1) := by decide +kernel
theorem dX4_endItem_165 : decode cX4_endItem 165 = .ok (.getfield 147, 3) := by decide +kernel
theorem dX4_endItem_168 : decode cX4_endItem 168 = .ok (.invokevirtual 208, 3) := by decide +kernel
theorem dX4_endItem_171 : decode cX4_endItem 171 = .ok (.pop, 1) := by decide +kernel
theorem dX4_endItem_172 : decode cX4_endItem 172 = .ok (.goto 24, 3) := by decide +kernel
theorem dX4_endItem_175 : decode cX4_endItem 175 = .ok (.aload_n 0, 1) := by decide +kernel
theorem dX4_endItem_176 : decode cX4_endItem 176 = .ok (.aload_n 0, 1) := by decide +kernel
theorem dX4_endItem_177 : decode cX4_endItem 177 = .ok (.getfield 178, 3) := by decide +kernel
theorem dX4_endItem_180 : decode cX4_endItem 180 = .ok (.aload_n 0, 1) := by decide +kernel
theorem dX4_endItem_181 : decode cX4_endItem 181 = .ok (.getfield 166, 3) := by decide +kernel
theorem dX4_endItem_184 : decode cX4_endItem 184 = .ok (.aload_n 0, 1) := by decide +kernel
theorem dX4_endItem_185 : decode cX4_endItem 185 = .ok (.getfield 156, 3) := by decide +kernel
theorem dX4_endItem_188 : decode cX4_endItem 188 = .ok (.aload_n 0, 1) := by decide +kernel
theorem dX4_endItem_189 : decode cX4_endItem 189 = .ok (.getfield 147, 3) := by decide +kernel
theorem dX4_endItem_192 : decode cX4_endItem 192 = .ok (.invokevirtual 212, 3) := by decide +kernel
theorem dX4_endItem_195 : decode cX4_endItem 195 = .ok (.pop, 1) := by decide +kernel
theorem dX4_endItem_196 : decode cX4_endItem 196 = .ok (.aload_n 0, 1) := by decide +kernel
theorem dX4_endItem_197 : decode cX4_endItem 197 = .ok (.aload_n 0, 1) := by decide +kernel
theorem dX4_endItem_198 : decode cX4_endItem 198 = .ok (.getfield 37, 3) := by decide +kernel
theorem dX4_endItem_201 : decode cX4_endItem 201 = .ok (.ifCond .le 7, 3) := by decide +kernel
theorem dX4_endItem_204 : decode cX4_endItem 204 = .ok (.iconst 1, 1) := by decide +kernel
theorem dX4_endItem_205 : decode cX4_endItem 205 = .ok (.goto 4, 3) := by decide +kernel
theorem dX4_endItem_208 : decode cX4_endItem 208 = .ok (.iconst 0, 1) := by decide +kernel
theorem dX4_endItem_209 : decode cX4_endItem 209 = .ok (.putfield 196, 3) := by decide +kernel
theorem dX4_endItem_212 : decode cX4_endItem 212 = .ok (.return_, 1) := by decide +kernel
theorem dX4_read_0 : decode cX4_read 0 = .ok (.aload_n 0, 1) := by decide +kernel
theorem dX4_read_1 : decode cX4_read 1 = .ok (.iconst 0, 1) := by decide +kernel
theorem dX4_read_2 : decode cX4_read 2 = .ok (.putfield 141, 3) := by decide +kernel
theorem dX4_read_5 : decode cX4_read 5 = .ok (.aload_n 0, 1) := by decide +kernel
theorem dX4_read_6 : decode cX4_read 6 = .ok (.iconst 0, 1) := by decide +kernel
theorem dX4_read_7 : decode cX4_read 7 = .ok (.putfield 190, 3) := by decide +kernel
theorem dX4_read_10 : decode cX4_read 10 = .ok (.aload_n 0, 1) := by decide +kernel
theorem dX4_read_11 : decode cX4_read 11 = .ok (.iload_n 1, 1) := by decide +kernel
theorem dX4_read_12 : decode cX4_read 12 = .ok (.putfield 193, 3) := by decide +kernel
theorem dX4_read_15 : decode cX4_read 15 = .ok (.aload_n 0, 1) := by decide +kernel
theorem dX4_read_16 : decode cX4_read 16 = .ok (.iconst 0, 1) := by decide +kernel
theorem dX4_read_17 : decode cX4_read 17 = .ok (.putfield 196, 3) := by decide +kernel
theorem dX4_read_20 : decode cX4_read 20 = .ok (.iconst 0, 1) := by decide +kernel
theorem dX4_read_21 : decode cX4_read 21 = .ok (.istore_n 2, 1) := by decide +kernel
theorem dX4_read_22 : decode cX4_read 22 = .ok (.iload_n 2, 1) := by decide +kernel
theorem dX4_read_23 : decode cX4_read 23 = .ok (.aload_n 0, 1) := by decide +kernel
theorem dX4_read_24 : decode cX4_read 24 = .ok (.getfield 138, 3) := by decide +kernel
theorem dX4_read_27 : decode cX4_read 27 = .ok (.if_icmp .ge 22, 3) := by decide +kernel
theorem dX4_read_30 : decode cX4_read 30 = .ok (.aload_n 0, 1) := by decide +kernel
theorem dX4_read_31 : decode cX4_read 31 = .ok (.aload_n 0, 1) := by decide +kernel
theorem dX4_read_32 : decode cX4_read 32 = .ok (.getfield 19, 3) := by decide +kernel
theorem dX4_read_35 : decode cX4_read 35 = .ok (.iload_n 2, 1) := by decide +kernel
theorem dX4_read_36 : decode cX4_read 36 = .ok (.iaload, 1) := by decide +kernel
theorem dX4_read_37 : decode cX4_read 37 = .ok (.invokevirtual 216, 3) := by decide +kernel
theorem dX4_read_40 : decode cX4_read 40 = .ok (.ifCond .eq 9, 3) := by decide +kernel
theorem dX4_read_43 : decode cX4_read 43 = .ok (.iinc 2 1, 3) := by decide +kernel
theorem dX4_read_46 : decode cX4_read 46 = .ok (.goto (-24), 3) := by decide +kernel
theorem dX4_read_49 : decode cX4_read 49 = .ok (.iload_n 2, 1) := by decide +kernel
theorem dX4_read_50 : decode cX4_read 50 = .ok (.ireturn, 1) := by decide +kernel
theorem dX4_firstError_0 : decode cX4_firstError 0 = .ok (.aload_n 0, 1) := by decide +kernel
theorem dX4_firstError_1 : decode cX4_firstError 1 = .ok (.iconst 0, 1) := by decide +kernel
theorem dX4_firstError_2 : decode cX4_firstError 2 = .ok (.putfield 37, 3) := by decide +kernel
theorem dX4_firstError_5 : decode cX4_firstError 5 = .ok (.aload_n 0, 1) := by decide +kernel
theorem dX4_firstError_6 : decode cX4_firstError 6 = .ok (.iconst 0, 1) := by decide +kernel
theorem dX4_firstError_7 : decode cX4_firstError 7 = .ok (.invokevirtual 219, 3) := by decide +kernel
theorem dX4_firstError_10 : decode cX4_firstError 10 = .ok (.ireturn, 1) := by decide +kernel
theorem dX4_copy_0 : decode cX4_copy 0 = .ok (.iconst 0, 1) := by decide +kernel
theorem dX4_copy_1 : decode cX4_copy 1 = .ok (.istore_n 3, 1) := by decide +kernel
theorem dX4_copy_2 : decode cX4_copy 2 = .ok (.iload_n 3, 1) := by decide +kernel
theorem dX4_copy_3 : decode cX4_copy 3 = .ok (.sipush 290, 3) := by decide +kernel
theorem dX4_copy_6 : decode cX4_copy 6 = .ok (.if_icmp .ge 15, 3) := by decide +kernel
theorem dX4_copy_9 : decode cX4_copy 9 = .ok (.aload_n 2, 1) := by decide +kernel
theorem dX4_copy_10 : decode cX4_copy 10 = .ok (.iload_n 3, 1) := by decide +kernel
theorem dX4_copy_11 : decode cX4_copy 11 = .ok (.aload_n 1, 1) := by decide +kernel
theorem dX4_copy_12 : decode cX4_copy 12 = .ok (.iload_n 3, 1) := by decide +kernel
theorem dX4_copy_13 : decode cX4_copy 13 = .ok (.iaload, 1) := by decide +kernel
theorem dX4_copy_14 : decode cX4_copy 14 = .ok (.iastore, 1) := by decide +kernel
theorem dX4_copy_15 : decode cX4_copy 15 = .ok (.iinc 3 1, 3) := by decide +kernel
theorem dX4_copy_18 : decode cX4_copy 18 = .ok (.goto (-16), 3) := by decide +kernel
theorem dX4_copy_21 : decode cX4_copy 21 = .ok (.aload_n 0, 1) := by decide +kernel
theorem dX4_copy_22 : decode cX4_copy 22 = .ok (.iconst 0, 1) := by decide +kernel
theorem dX4_copy_23 : decode cX4_copy 23 = .ok (.putfield 49, 3) := by decide +kernel
theorem dX4_copy_26 : decode cX4_copy 26 = .ok (.return_, 1) := by decide +kernel
theorem dX4_load_0 : decode cX4_load 0 = .ok (.aload_n 0, 1) := by decide +kernel
theorem dX4_load_1 : decode cX4_load 1 = .ok (.iconst 0, 1) := by decide +kernel
theorem dX4_load_2 : decode cX4_load 2 = .ok (.invokevirtual 219, 3) := by decide +kernel
theorem dX4_load_5 : decode cX4_load 5 = .ok (.aload_n 0, 1) := by decide +kernel
theorem dX4_load_6 : decode cX4_load 6 = .ok (.getfield 138, 3) := by decide +kernel
theorem dX4_load_9 : decode cX4_load 9 = .ok (.if_icmp .ne 14, 3) := by decide +kernel
theorem dX4_load_12 : decode cX4_load 12 = .ok (.aload_n 0, 1) := by decide +kernel
theorem dX4_load_13 : decode cX4_load 13 = .ok (.invokevirtual 172, 3) := by decide +kernel
theorem dX4_load_16 : decode cX4_load 16 = .ok (.ifCond .eq 7, 3) := by decide +kernel
theorem dX4_load_19 : decode cX4_load 19 = .ok (.iconst 1, 1) := by decide +kernel
theorem dX4_load_20 : decode cX4_load 20 = .ok (.goto 4, 3) := by decide +kernel
theorem dX4_load_23 : decode cX4_load 23 = .ok (.iconst 0, 1) := by decide +kernel
theorem dX4_load_24 : decode cX4_load 24 = .ok (.istore_n 1, 1) := by decide +kernel
theorem dX4_load_25 : decode cX4_load 25 = .ok (.aload_n 0, 1) := by decide +kernel
theorem dX4_load_26 : decode cX4_load 26 = .ok (.iload_n 1, 1) := by decide +kernel
theorem dX4_load_27 : decode cX4_load 27 = .ok (.ifCond .eq 7, 3) := by decide +kernel
theorem dX4_load_30 : decode cX4_load 30 = .ok (.iconst 0, 1) := by decide +kernel
theorem dX4_load_31 : decode cX4_load 31 = .ok (.goto 4, 3) := by decide +kernel
theorem dX4_load_34 : decode cX4_load 34 = .ok (.iconst 1, 1) := by decide +kernel
theorem dX4_load_35 : decode cX4_load 35 = .ok (.putfield 37, 3) := by decide +kernel
theorem dX4_load_38 : decode cX4_load 38 = .ok (.aload_n 0, 1) := by decide +kernel
theorem dX4_load_39 : decode cX4_load 39 = .ok (.getfield 37, 3) := by decide +kernel
theorem dX4_load_42 : decode cX4_load 42 = .ok (.ifCond .le 5, 3) := by decide +kernel
theorem dX4_load_45 : decode cX4_load 45 = .ok (.iconst 0, 1) := by decide +kernel
theorem dX4_load_46 : decode cX4_load 46 = .ok (.ireturn, 1) := by decide +kernel
theorem dX4_load_47 : decode cX4_load 47 = .ok (.aload_n 0, 1) := by decide +kernel
theorem dX4_load_48 : decode cX4_load 48 = .ok (.aload_n 0, 1) := by decide +kernel
theorem dX4_load_49 : decode cX4_load 49 = .ok (.getfield 7, 3) := by decide +kernel
theorem dX4_load_52 : decode cX4_load 52 = .ok (.aload_n 0, 1) := by decide +kernel
theorem dX4_load_53 : decode cX4_load 53 = .ok (.getfield 13, 3) := by decide +kernel
theorem dX4_load_56 : decode cX4_load 56 = .ok (.invokevirtual 223, 3) := by decide +kernel
theorem dX4_load_59 : decode cX4_load 59 = .ok (.aload_n 0, 1) := by decide +kernel
theorem dX4_load_60 : decode cX4_load 60 = .ok (.iconst 1, 1) := by decide +kernel
theorem dX4_load_61 : decode cX4_load 61 = .ok (.invokevirtual 219, 3) := by decide +kernel
theorem dX4_load_64 : decode cX4_load 64 = .ok (.pop, 1) := by decide +kernel
theorem dX4_load_65 : decode cX4_load 65 = .ok (.aload_n 0, 1) := by decide +kernel
theorem dX4_load_66 : decode cX4_load 66 = .ok (.invokevirtual 175, 3) := by decide +kernel
theorem dX4_load_69 : decode cX4_load 69 = .ok (.aload_n 0, 1) := by decide +kernel
theorem dX4_load_70 : decode cX4_load 70 = .ok (.getfield 196, 3) := by decide +kernel
theorem dX4_load_73 : decode cX4_load 73 = .ok (.ifCond .eq 22, 3) := by decide +kernel
theorem dX4_load_76 : decode cX4_load 76 = .ok (.aload_n 0, 1) := by decide +kernel
theorem dX4_load_77 : decode cX4_load 77 = .ok (.aload_n 0, 1) := by decide +kernel
theorem dX4_load_78 : decode cX4_load 78 = .ok (.getfield 13, 3) := by decide +kernel
theorem dX4_load_81 : decode cX4_load 81 = .ok (.aload_n 0, 1) := by decide +kernel
theorem dX4_load_82 : decode cX4_load 82 = .ok (.getfield 7, 3) := by decide +kernel
theorem dX4_load_85 : decode cX4_load 85 = .ok (.invokevirtual 223, 3) := by decide +kernel
theorem dX4_load_88 : decode cX4_load 88 = .ok (.aload_n 0, 1) := by decide +kernel
theorem dX4_load_89 : decode cX4_load 89 = .ok (.iconst 2, 1) := by decide +kernel
theorem dX4_load_90 : decode cX4_load 90 = .ok (.putfield 37, 3) := by decide +kernel
theorem dX4_load_93 : decode cX4_load 93 = .ok (.iconst 0, 1) := by decide +kernel
theorem dX4_load_94 : decode cX4_load 94 = .ok (.ireturn, 1) := by decide +kernel
theorem dX4_load_95 : decode cX4_load 95 = .ok (.aload_n 0, 1) := by decide +kernel
theorem dX4_load_96 : decode cX4_load 96 = .ok (.iconst 0, 1) := by decide +kernel
theorem dX4_load_97 : decode cX4_load 97 = .ok (.putfield 37, 3) := by decide +kernel
theorem dX4_load_100 : decode cX4_load 100 = .ok (.aload_n 0, 1) := by decide +kernel
theorem dX4_load_101 : decode cX4_load 101 = .ok (.iconst 0, 1) := by decide +kernel
theorem dX4_load_102 : decode cX4_load 102 = .ok (.putfield 138, 3) := by decide +kernel
theorem dX4_load_105 : decode cX4_load 105 = .ok (.aload_n 0, 1) := by decide +kernel
theorem dX4_load_106 : decode cX4_load 106 = .ok (.getfield 190, 3) := by decide +kernel
theorem dX4_load_109 : decode cX4_load 109 = .ok (.ireturn, 1) := by decide +kernel
theorem dX4_resolved_0 : decode cX4_resolved 0 = .ok (.aload_n 0, 1) := by decide +kernel
theorem dX4_resolved_1 : decode cX4_resolved 1 = .ok (.iload_n 1, 1) := by decide +kernel
theorem dX4_resolved_2 : decode cX4_resolved 2 = .ok (.iload_n 2, 1) := by decide +kernel
theorem dX4_resolved_3 : decode cX4_resolved 3 = .ok (.invokevirtual 83, 3) := by decide +kernel
theorem dX4_resolved_6 : decode cX4_resolved 6 = .ok (.iload_n 3, 1) := by decide +kernel
theorem dX4_resolved_7 : decode cX4_resolved 7 = .ok (.tableswitch 107 0 3 #[29, 50, 71, 89], 29) := by decide +kernel
theorem dX4_resolved_36 : decode cX4_resolved 36 = .ok (.aload_n 0, 1) := by decide +kernel
theorem dX4_resolved_37 : decode cX4_resolved 37 = .ok (.getfield 76, 3) := by decide +kernel
theorem dX4_resolved_40 : decode cX4_resolved 40 = .ok (.ifCond .ne 7, 3) := by decide +kernel
theorem dX4_resolved_43 : decode cX4_resolved 43 = .ok (.iconst (-1), 1) := by decide +kernel
theorem dX4_resolved_44 : decode cX4_resolved 44 = .ok (.goto 12, 3) := by decide +kernel
theorem dX4_resolved_47 : decode cX4_resolved 47 = .ok (.aload_n 0, 1) := by decide +kernel
theorem dX4_resolved_48 : decode cX4_resolved 48 = .ok (.getfield 22, 3) := by decide +kernel
theorem dX4_resolved_51 : decode cX4_resolved 51 = .ok (.iconst 0, 1) := by decide +kernel
theorem dX4_resolved_52 : decode cX4_resolved 52 = .ok (.iaload, 1) := by decide +kernel
theorem dX4_resolved_53 : decode cX4_resolved 53 = .ok (.invokestatic 227, 3) := by decide +kernel
theorem dX4_resolved_56 : decode cX4_resolved 56 = .ok (.ireturn, 1) := by decide +kernel
theorem dX4_resolved_57 : decode cX4_resolved 57 = .ok (.aload_n 0, 1) := by decide +kernel
theorem dX4_resolved_58 : decode cX4_resolved 58 = .ok (.getfield 76, 3) := by decide +kernel
theorem dX4_resolved_61 : decode cX4_resolved 61 = .ok (.ifCond .ne 7, 3) := by decide +kernel
theorem dX4_resolved_64 : decode cX4_resolved 64 = .ok (.iconst 0, 1) := by decide +kernel
theorem dX4_resolved_65 : decode cX4_resolved 65 = .ok (.goto 12, 3) := by decide +kernel
theorem dX4_resolved_68 : decode cX4_resolved 68 = .ok (.aload_n 0, 1) := by decide +kernel
theorem dX4_resolved_69 : decode cX4_resolved 69 = .ok (.getfield 22, 3) := by decide +kernel
theorem dX4_resolved_72 : decode cX4_resolved 72 = .ok (.iconst 0, 1) := by decide +kernel
theorem dX4_resolved_73 : decode cX4_resolved 73 = .ok (.iaload, 1) := by decide +kernel
theorem dX4_resolved_74 : decode cX4_resolved 74 = .ok (.invokestatic 87, 3) := by decide +kernel
theorem dX4_resolved_77 : decode cX4_resolved 77 = .ok (.ireturn, 1) := by decide +kernel
theorem dX4_resolved_78 : decode cX4_resolved 78 = .ok (.aload_n 0, 1) := by decide +kernel
theorem dX4_resolved_79 : decode cX4_resolved 79 = .ok (.getfield 76, 3) := by decide +kernel
theorem dX4_resolved_82 : decode cX4_resolved 82 = .ok (.ifCond .ne 7, 3) := by decide +kernel
theorem dX4_resolved_85 : decode cX4_resolved 85 = .ok (.iconst (-1), 1) := by decide +kernel
theorem dX4_resolved_86 : decode cX4_resolved 86 = .ok (.goto 9, 3) := by decide +kernel
theorem dX4_resolved_89 : decode cX4_resolved 89 = .ok (.aload_n 0, 1) := by decide +kernel
theorem dX4_resolved_90 : decode cX4_resolved 90 = .ok (.getfield 25, 3) := by decide +kernel
theorem dX4_resolved_93 : decode cX4_resolved 93 = .ok (.iconst 0, 1) := by decide +kernel
theorem dX4_resolved_94 : decode cX4_resolved 94 = .ok (.iaload, 1) := by decide +kernel
theorem dX4_resolved_95 : decode cX4_resolved 95 = .ok (.ireturn, 1) := by decide +kernel
theorem dX4_resolved_96 : decode cX4_resolved 96 = .ok (.aload_n 0, 1) := by decide +kernel
theorem dX4_resolved_97 : decode cX4_resolved 97 = .ok (.getfield 76, 3) := by decide +kernel
theorem dX4_resolved_100 : decode cX4_resolved 100 = .ok (.ifCond .ne 7, 3) := by decide +kernel
theorem dX4_resolved_103 : decode cX4_resolved 103 = .ok (.iconst (-1), 1) := by decide +kernel
theorem dX4_resolved_104 : decode cX4_resolved 104 = .ok (.goto 9, 3) := by decide +kernel
theorem dX4_resolved_107 : decode cX4_resolved 107 = .ok (.aload_n 0, 1) := by decide +kernel
theorem dX4_resolved_108 : decode cX4_resolved 108 = .ok (.getfield 28, 3) := by decide +kernel
theorem dX4_resolved_111 : decode cX4_resolved 111 = .ok (.iconst 0, 1) := by decide +kernel
theorem dX4_resolved_112 : decode cX4_resolved 112 = .ok (.iaload, 1) := by decide +kernel
theorem dX4_resolved_113 : decode cX4_resolved 113 = .ok (.ireturn, 1) := by decide +kernel
theorem dX4_resolved_114 : decode cX4_resolved 114 = .ok (.aload_n 0, 1) := by decide +kernel
theorem dX4_resolved_115 : decode cX4_resolved 115 = .ok (.getfield 76, 3) := by decide +kernel
theorem dX4_resolved_118 : decode cX4_resolved 118 = .ok (.ifCond .ne 7, 3) := by decide +kernel
theorem dX4_resolved_121 : decode cX4_resolved 121 = .ok (.iconst 0, 1) := by decide +kernel
theorem dX4_resolved_122 : decode cX4_resolved 122 = .ok (.goto 9, 3) := by decide +kernel
theorem dX4_resolved_125 : decode cX4_resolved 125 = .ok (.aload_n 0, 1) := by decide +kernel
theorem dX4_resolved_126 : decode cX4_resolved 126 = .ok (.getfield 76, 3) := by decide +kernel
theorem dX4_resolved_129 : decode cX4_resolved 129 = .ok (.iconst 1, 1) := by decide +kernel
theorem dX4_resolved_130 : decode cX4_resolved 130 = .ok (.isub, 1) := by decide +kernel
theorem dX4_resolved_131 : decode cX4_resolved 131 = .ok (.ireturn, 1) := by decide +kernel
theorem dX4_resolve_0 : decode cX4_resolve 0 = .ok (.aload_n 0, 1) := by decide +kernel
theorem dX4_resolve_1 : decode cX4_resolve 1 = .ok (.aload_n 0, 1) := by decide +kernel
theorem dX4_resolve_2 : decode cX4_resolve 2 = .ok (.iload_n 1, 1) := by decide +kernel
theorem dX4_resolve_3 : decode cX4_resolve 3 = .ok (.invokevirtual 103, 3) := by decide +kernel
theorem dX4_resolve_6 : decode cX4_resolve 6 = .ok (.ifCond .ne 7, 3) := by decide +kernel
theorem dX4_resolve_9 : decode cX4_resolve 9 = .ok (.iconst 1, 1) := by decide +kernel
theorem dX4_resolve_10 : decode cX4_resolve 10 = .ok (.goto 24, 3) := by decide +kernel
theorem dX4_resolve_13 : decode cX4_resolve 13 = .ok (.iload_n 2, 1) := by decide +kernel
theorem dX4_resolve_14 : decode cX4_resolve 14 = .ok (.invokestatic 106, 3) := by decide +kernel
theorem dX4_resolve_17 : decode cX4_resolve 17 = .ok (.ifCond .eq 16, 3) := by decide +kernel
theorem dX4_resolve_20 : decode cX4_resolve 20 = .ok (.iload_n 3, 1) := by decide +kernel
theorem dX4_resolve_21 : decode cX4_resolve 21 = .ok (.iconst 0, 1) := by decide +kernel
theorem dX4_resolve_22 : decode cX4_resolve 22 = .ok (.iconst 4, 1) := by decide +kernel
theorem dX4_resolve_23 : decode cX4_resolve 23 = .ok (.invokestatic 41, 3) := by decide +kernel
theorem dX4_resolve_26 : decode cX4_resolve 26 = .ok (.ifCond .eq 7, 3) := by decide +kernel
theorem dX4_resolve_29 : decode cX4_resolve 29 = .ok (.iconst 0, 1) := by decide +kernel
theorem dX4_resolve_30 : decode cX4_resolve 30 = .ok (.goto 4, 3) := by decide +kernel
theorem dX4_resolve_33 : decode cX4_resolve 33 = .ok (.iconst 2, 1) := by decide +kernel
theorem dX4_resolve_34 : decode cX4_resolve 34 = .ok (.putfield 37, 3) := by decide +kernel
theorem dX4_resolve_37 : decode cX4_resolve 37 = .ok (.aload_n 0, 1) := by decide +kernel
theorem dX4_resolve_38 : decode cX4_resolve 38 = .ok (.getfield 37, 3) := by decide +kernel
theorem dX4_resolve_41 : decode cX4_resolve 41 = .ok (.ifCond .le 7, 3) := by decide +kernel
theorem dX4_resolve_44 : decode cX4_resolve 44 = .ok (.iconst 0, 1) := by decide +kernel
theorem dX4_resolve_45 : decode cX4_resolve 45 = .ok (.goto 10, 3) := by decide +kernel
theorem dX4_resolve_48 : decode cX4_resolve 48 = .ok (.aload_n 0, 1) := by decide +kernel
theorem dX4_resolve_49 : decode cX4_resolve 49 = .ok (.iload_n 1, 1) := by decide +kernel
theorem dX4_resolve_50 : decode cX4_resolve 50 = .ok (.iload_n 2, 1) := by decide +kernel
theorem dX4_resolve_51 : decode cX4_resolve 51 = .ok (.iload_n 3, 1) := by decide +kernel
theorem dX4_resolve_52 : decode cX4_resolve 52 = .ok (.invokevirtual 230, 3) := by decide +kernel
theorem dX4_resolve_55 : decode cX4_resolve 55 = .ok (.ireturn, 1) := by decide +kernel
theorem dX4_candidateOf_0 : decode cX4_candidateOf 0 = .ok (.aload_n 0, 1) := by decide +kernel
theorem dX4_candidateOf_1 : decode cX4_candidateOf 1 = .ok (.iload_n 1, 1) := by decide +kernel
theorem dX4_candidateOf_2 : decode cX4_candidateOf 2 = .ok (.iload_n 2, 1) := by decide +kernel
theorem dX4_candidateOf_3 : decode cX4_candidateOf 3 = .ok (.invokevirtual 83, 3) := by decide +kernel
theorem dX4_candidateOf_6 : decode cX4_candidateOf 6 = .ok (.iload_n 3, 1) := by decide +kernel
theorem dX4_candidateOf_7 : decode cX4_candidateOf 7 = .ok (.iconst 0, 1) := by decide +kernel
theorem dX4_candidateOf_8 : decode cX4_candidateOf 8 = .ok (.aload_n 0, 1) := by decide +kernel
theorem dX4_candidateOf_9 : decode cX4_candidateOf 9 = .ok (.getfield 76, 3) := by decide +kernel
theorem dX4_candidateOf_12 : decode cX4_candidateOf 12 = .ok (.iconst 1, 1) := by decide +kernel
theorem dX4_candidateOf_13 : decode cX4_candidateOf 13 = .ok (.isub, 1) := by decide +kernel
theorem dX4_candidateOf_14 : decode cX4_candidateOf 14 = .ok (.invokestatic 41, 3) := by decide +kernel
theorem dX4_candidateOf_17 : decode cX4_candidateOf 17 = .ok (.ifCond .eq 8, 3) := by decide +kernel
theorem dX4_candidateOf_20 : decode cX4_candidateOf 20 = .ok (.iload 4, 2) := by decide +kernel
theorem dX4_candidateOf_22 : decode cX4_candidateOf 22 = .ok (.ifCond .ge 5, 3) := by decide +kernel
theorem dX4_candidateOf_25 : decode cX4_candidateOf 25 = .ok (.iconst (-1), 1) := by decide +kernel
theorem dX4_candidateOf_26 : decode cX4_candidateOf 26 = .ok (.ireturn, 1) := by decide +kernel
theorem dX4_candidateOf_27 : decode cX4_candidateOf 27 = .ok (.iload 4, 2) := by decide +kernel
theorem dX4_candidateOf_29 : decode cX4_candidateOf 29 = .ok (.istore 5, 2) := by decide +kernel
theorem dX4_candidateOf_31 : decode cX4_candidateOf 31 = .ok (.iconst (-1), 1) := by decide +kernel
theorem dX4_candidateOf_32 : decode cX4_candidateOf 32 = .ok (.istore 6, 2) := by decide +kernel
theorem dX4_candidateOf_34 : decode cX4_candidateOf 34 = .ok (.iconst 0, 1) := by decide +kernel
theorem dX4_candidateOf_35 : decode cX4_candidateOf 35 = .ok (.istore 7, 2) := by decide +kernel
theorem dX4_candidateOf_37 : decode cX4_candidateOf 37 = .ok (.iload 7, 2) := by decide +kernel
theorem dX4_candidateOf_39 : decode cX4_candidateOf 39 = .ok (.aload_n 0, 1) := by decide +kernel
theorem dX4_candidateOf_40 : decode cX4_candidateOf 40 = .ok (.getfield 7, 3) := by decide +kernel
theorem dX4_candidateOf_43 : decode cX4_candidateOf 43 = .ok (.iconst 1, 1) := by decide +kernel
theorem dX4_candidateOf_44 : decode cX4_candidateOf 44 = .ok (.iaload, 1) := by decide +kernel
theorem dX4_candidateOf_45 : decode cX4_candidateOf 45 = .ok (.if_icmp .ge 41, 3) := by decide +kernel
theorem dX4_candidateOf_48 : decode cX4_candidateOf 48 = .ok (.aload_n 0, 1) := by decide +kernel
theorem dX4_candidateOf_49 : decode cX4_candidateOf 49 = .ok (.getfield 22, 3) := by decide +kernel
theorem dX4_candidateOf_52 : decode cX4_candidateOf 52 = .ok (.iload_n 3, 1) := by decide +kernel
theorem dX4_candidateOf_53 : decode cX4_candidateOf 53 = .ok (.iaload, 1) := by decide +kernel
theorem dX4_candidateOf_54 : decode cX4_candidateOf 54 = .ok (.iload 7, 2) := by decide +kernel
theorem dX4_candidateOf_56 : decode cX4_candidateOf 56 = .ok (.ishr, 1) := by decide +kernel
theorem dX4_candidateOf_57 : decode cX4_candidateOf 57 = .ok (.iconst 1, 1) := by decide +kernel
theorem dX4_candidateOf_58 : decode cX4_candidateOf 58 = .ok (.iand, 1) := by decide +kernel
theorem dX4_candidateOf_59 : decode cX4_candidateOf 59 = .ok (.iconst 1, 1) := by decide +kernel
theorem dX4_candidateOf_60 : decode cX4_candidateOf 60 = .ok (.if_icmp .ne 20, 3) := by decide +kernel
theorem dX4_candidateOf_63 : decode cX4_candidateOf 63 = .ok (.iload 5, 2) := by decide +kernel
theorem dX4_candidateOf_65 : decode cX4_candidateOf 65 = .ok (.ifCond .ne 8, 3) := by decide +kernel
theorem dX4_candidateOf_68 : decode cX4_candidateOf 68 = .ok (.iload 7, 2) := by decide +kernel
theorem dX4_candidateOf_70 : decode cX4_candidateOf 70 = .ok (.goto 5, 3) := by decide +kernel
theorem dX4_candidateOf_73 : decode cX4_candidateOf 73 = .ok (.iload 6, 2) := by decide +kernel
theorem dX4_candidateOf_75 : decode cX4_candidateOf 75 = .ok (.istore 6, 2) := by decide +kernel
theorem dX4_candidateOf_77 : decode cX4_candidateOf 77 = .ok (.iinc 5 (-1), 3) := by decide +kernel
theorem dX4_candidateOf_80 : decode cX4_candidateOf 80 = .ok (.iinc 7 1, 3) := by decide +kernel
theorem dX4_candidateOf_83 : decode cX4_candidateOf 83 = .ok (.goto (-46), 3) := by decide +kernel
theorem dX4_candidateOf_86 : decode cX4_candidateOf 86 = .ok (.iload 6, 2) := by decide +kernel
theorem dX4_candidateOf_88 : decode cX4_candidateOf 88 = .ok (.ireturn, 1) := by decide +kernel
theorem dX4_candidate_0 : decode cX4_candidate 0 = .ok (.aload_n 0, 1) := by decide +kernel
theorem dX4_candidate_1 : decode cX4_candidate 1 = .ok (.aload_n 0, 1) := by decide +kernel
theorem dX4_candidate_2 : decode cX4_candidate 2 = .ok (.iload_n 1, 1) := by decide +kernel
theorem dX4_candidate_3 : decode cX4_candidate 3 = .ok (.invokevirtual 103, 3) := by decide +kernel
theorem dX4_candidate_6 : decode cX4_candidate 6 = .ok (.ifCond .ne 7, 3) := by decide +kernel
theorem dX4_candidate_9 : decode cX4_candidate 9 = .ok (.iconst 1, 1) := by decide +kernel
theorem dX4_candidate_10 : decode cX4_candidate 10 = .ok (.goto 15, 3) := by decide +kernel
theorem dX4_candidate_13 : decode cX4_candidate 13 = .ok (.iload_n 2, 1) := by decide +kernel
theorem dX4_candidate_14 : decode cX4_candidate 14 = .ok (.invokestatic 106, 3) := by decide +kernel
theorem dX4_candidate_17 : decode cX4_candidate 17 = .ok (.ifCond .eq 7, 3) := by decide +kernel
theorem dX4_candidate_20 : decode cX4_candidate 20 = .ok (.iconst 0, 1) := by decide +kernel
theorem dX4_candidate_21 : decode cX4_candidate 21 = .ok (.goto 4, 3) := by decide +kernel
theorem dX4_candidate_24 : decode cX4_candidate 24 = .ok (.iconst 2, 1) := by decide +kernel
theorem dX4_candidate_25 : decode cX4_candidate 25 = .ok (.putfield 37, 3) := by decide +kernel
theorem dX4_candidate_28 : decode cX4_candidate 28 = .ok (.aload_n 0, 1) := by decide +kernel
theorem dX4_candidate_29 : decode cX4_candidate 29 = .ok (.getfield 37, 3) := by decide +kernel
theorem dX4_candidate_32 : decode cX4_candidate 32 = .ok (.ifCond .le 7, 3) := by decide +kernel
theorem dX4_candidate_35 : decode cX4_candidate 35 = .ok (.iconst 0, 1) := by decide +kernel
theorem dX4_candidate_36 : decode cX4_candidate 36 = .ok (.goto 12, 3) := by decide +kernel
theorem dX4_candidate_39 : decode cX4_candidate 39 = .ok (.aload_n 0, 1) := by decide +kernel
theorem dX4_candidate_40 : decode cX4_candidate 40 = .ok (.iload_n 1, 1) := by decide +kernel
theorem dX4_candidate_41 : decode cX4_candidate 41 = .ok (.iload_n 2, 1) := by decide +kernel
theorem dX4_candidate_42 : decode cX4_candidate 42 = .ok (.iload_n 3, 1) := by decide +kernel
theorem dX4_candidate_43 : decode cX4_candidate 43 = .ok (.iload 4, 2) := by decide +kernel
theorem dX4_candidate_45 : decode cX4_candidate 45 = .ok (.invokevirtual 233, 3) := by decide +kernel
theorem dX4_candidate_48 : decode cX4_candidate 48 = .ok (.ireturn, 1) := by decide +kernel
theorem dX4_offers_0 : decode cX4_offers 0 = .ok (.aload_n 0, 1) := by decide +kernel
theorem dX4_offers_1 : decode cX4_offers 1 = .ok (.aload_n 0, 1) := by decide +kernel
theorem dX4_offers_2 : decode cX4_offers 2 = .ok (.iload_n 1, 1) := by decide +kernel
theorem dX4_offers_3 : decode cX4_offers 3 = .ok (.invokevirtual 103, 3) := by decide +kernel
theorem dX4_offers_6 : decode cX4_offers 6 = .ok (.ifCond .ne 7, 3) := by decide +kernel
theorem dX4_offers_9 : decode cX4_offers 9 = .ok (.iconst 1, 1) := by decide +kernel
theorem dX4_offers_10 : decode cX4_offers 10 = .ok (.goto 15, 3) := by decide +kernel
theorem dX4_offers_13 : decode cX4_offers 13 = .ok (.iload_n 2, 1) := by decide +kernel
theorem dX4_offers_14 : decode cX4_offers 14 = .ok (.invokestatic 106, 3) := by decide +kernel
theorem dX4_offers_17 : decode cX4_offers 17 = .ok (.ifCond .eq 7, 3) := by decide +kernel
theorem dX4_offers_20 : decode cX4_offers 20 = .ok (.iconst 0, 1) := by decide +kernel
theorem dX4_offers_21 : decode cX4_offers 21 = .ok (.goto 4, 3) := by decide +kernel
theorem dX4_offers_24 : decode cX4_offers 24 = .ok (.iconst 2, 1) := by decide +kernel
theorem dX4_offers_25 : decode cX4_offers 25 = .ok (.putfield 37, 3) := by decide +kernel
theorem dX4_offers_28 : decode cX4_offers 28 = .ok (.aload_n 0, 1) := by decide +kernel
theorem dX4_offers_29 : decode cX4_offers 29 = .ok (.getfield 37, 3) := by decide +kernel
theorem dX4_offers_32 : decode cX4_offers 32 = .ok (.ifCond .le 5, 3) := by decide +kernel
theorem dX4_offers_35 : decode cX4_offers 35 = .ok (.iconst 0, 1) := by decide +kernel
theorem dX4_offers_36 : decode cX4_offers 36 = .ok (.ireturn, 1) := by decide +kernel
theorem dX4_offers_37 : decode cX4_offers 37 = .ok (.aload_n 0, 1) := by decide +kernel
theorem dX4_offers_38 : decode cX4_offers 38 = .ok (.invokevirtual 73, 3) := by decide +kernel
theorem dX4_offers_41 : decode cX4_offers 41 = .ok (.aload_n 0, 1) := by decide +kernel
theorem dX4_offers_42 : decode cX4_offers 42 = .ok (.iload_n 1, 1) := by decide +kernel
theorem dX4_offers_43 : decode cX4_offers 43 = .ok (.iload_n 2, 1) := by decide +kernel
theorem dX4_offers_44 : decode cX4_offers 44 = .ok (.invokevirtual 60, 3) := by decide +kernel
theorem dX4_offers_47 : decode cX4_offers 47 = .ok (.invokestatic 87, 3) := by decide +kernel
theorem dX4_offers_50 : decode cX4_offers 50 = .ok (.ireturn, 1) := by decide +kernel
theorem dX4_seen_0 : decode cX4_seen 0 = .ok (.iconst 0, 1) := by decide +kernel
theorem dX4_seen_1 : decode cX4_seen 1 = .ok (.istore_n 3, 1) := by decide +kernel
theorem dX4_seen_2 : decode cX4_seen 2 = .ok (.iconst 0, 1) := by decide +kernel
theorem dX4_seen_3 : decode cX4_seen 3 = .ok (.istore 4, 2) := by decide +kernel
theorem dX4_seen_5 : decode cX4_seen 5 = .ok (.iload 4, 2) := by decide +kernel
theorem dX4_seen_7 : decode cX4_seen 7 = .ok (.bipush 26, 2) := by decide +kernel
theorem dX4_seen_9 : decode cX4_seen 9 = .ok (.if_icmp .ge 51, 3) := by decide +kernel
theorem dX4_seen_12 : decode cX4_seen 12 = .ok (.aload_n 0, 1) := by decide +kernel
theorem dX4_seen_13 : decode cX4_seen 13 = .ok (.iload_n 1, 1) := by decide +kernel
theorem dX4_seen_14 : decode cX4_seen 14 = .ok (.iload 4, 2) := by decide +kernel
theorem dX4_seen_16 : decode cX4_seen 16 = .ok (.invokevirtual 100, 3) := by decide +kernel
theorem dX4_seen_19 : decode cX4_seen 19 = .ok (.invokestatic 87, 3) := by decide +kernel
theorem dX4_seen_22 : decode cX4_seen 22 = .ok (.istore 5, 2) := by decide +kernel
theorem dX4_seen_24 : decode cX4_seen 24 = .ok (.iload_n 3, 1) := by decide +kernel
theorem dX4_seen_25 : decode cX4_seen 25 = .ok (.iload_n 2, 1) := by decide +kernel
theorem dX4_seen_26 : decode cX4_seen 26 = .ok (.ifCond .eq 12, 3) := by decide +kernel
theorem dX4_seen_29 : decode cX4_seen 29 = .ok (.iload 5, 2) := by decide +kernel
theorem dX4_seen_31 : decode cX4_seen 31 = .ok (.iconst 1, 1) := by decide +kernel
theorem dX4_seen_32 : decode cX4_seen 32 = .ok (.if_icmp .le 19, 3) := by decide +kernel
theorem dX4_seen_35 : decode cX4_seen 35 = .ok (.goto 9, 3) := by decide +kernel
theorem dX4_seen_38 : decode cX4_seen 38 = .ok (.iload 5, 2) := by decide +kernel
theorem dX4_seen_40 : decode cX4_seen 40 = .ok (.iconst 1, 1) := by decide +kernel
theorem dX4_seen_41 : decode cX4_seen 41 = .ok (.if_icmp .ne 10, 3) := by decide +kernel
theorem dX4_seen_44 : decode cX4_seen 44 = .ok (.iconst 1, 1) := by decide +kernel
theorem dX4_seen_45 : decode cX4_seen 45 = .ok (.iload 4, 2) := by decide +kernel
theorem dX4_seen_47 : decode cX4_seen 47 = .ok (.ishl, 1) := by decide +kernel
theorem dX4_seen_48 : decode cX4_seen 48 = .ok (.goto 4, 3) := by decide +kernel
theorem dX4_seen_51 : decode cX4_seen 51 = .ok (.iconst 0, 1) := by decide +kernel
theorem dX4_seen_52 : decode cX4_seen 52 = .ok (.ior, 1) := by decide +kernel
theorem dX4_seen_53 : decode cX4_seen 53 = .ok (.istore_n 3, 1) := by decide +kernel
theorem dX4_seen_54 : decode cX4_seen 54 = .ok (.iinc 4 1, 3) := by decide +kernel
theorem dX4_seen_57 : decode cX4_seen 57 = .ok (.goto (-52), 3) := by decide +kernel
theorem dX4_seen_60 : decode cX4_seen 60 = .ok (.iload_n 3, 1) := by decide +kernel
theorem dX4_seen_61 : decode cX4_seen 61 = .ok (.ireturn, 1) := by decide +kernel
theorem dX4_visible_0 : decode cX4_visible 0 = .ok (.aload_n 0, 1) := by decide +kernel
theorem dX4_visible_1 : decode cX4_visible 1 = .ok (.aload_n 0, 1) := by decide +kernel
theorem dX4_visible_2 : decode cX4_visible 2 = .ok (.iload_n 1, 1) := by decide +kernel
theorem dX4_visible_3 : decode cX4_visible 3 = .ok (.invokevirtual 103, 3) := by decide +kernel
theorem dX4_visible_6 : decode cX4_visible 6 = .ok (.ifCond .eq 7, 3) := by decide +kernel
theorem dX4_visible_9 : decode cX4_visible 9 = .ok (.iconst 0, 1) := by decide +kernel
theorem dX4_visible_10 : decode cX4_visible 10 = .ok (.goto 4, 3) := by decide +kernel
theorem dX4_visible_13 : decode cX4_visible 13 = .ok (.iconst 1, 1) := by decide +kernel
theorem dX4_visible_14 : decode cX4_visible 14 = .ok (.putfield 37, 3) := by decide +kernel
theorem dX4_visible_17 : decode cX4_visible 17 = .ok (.aload_n 0, 1) := by decide +kernel
theorem dX4_visible_18 : decode cX4_visible 18 = .ok (.getfield 37, 3) := by decide +kernel
theorem dX4_visible_21 : decode cX4_visible 21 = .ok (.ifCond .le 7, 3) := by decide +kernel
theorem dX4_visible_24 : decode cX4_visible 24 = .ok (.iconst 0, 1) := by decide +kernel
theorem dX4_visible_25 : decode cX4_visible 25 = .ok (.goto 9, 3) := by decide +kernel
theorem dX4_visible_28 : decode cX4_visible 28 = .ok (.aload_n 0, 1) := by decide +kernel
theorem dX4_visible_29 : decode cX4_visible 29 = .ok (.iload_n 1, 1) := by decide +kernel
theorem dX4_visible_30 : decode cX4_visible 30 = .ok (.iload_n 2, 1) := by decide +kernel
theorem dX4_visible_31 : decode cX4_visible 31 = .ok (.invokevirtual 237, 3) := by decide +kernel
theorem dX4_visible_34 : decode cX4_visible 34 = .ok (.ireturn, 1) := by decide +kernel
theorem dX4_changeNames_0 : decode cX4_changeNames 0 = .ok (.aload_n 0, 1) := by decide +kernel
theorem dX4_changeNames_1 : decode cX4_changeNames 1 = .ok (.invokevirtual 73, 3) := by decide +kernel
theorem dX4_changeNames_4 : decode cX4_changeNames 4 = .ok (.aload_n 0, 1) := by decide +kernel
theorem dX4_changeNames_5 : decode cX4_changeNames 5 = .ok (.iload_n 1, 1) := by decide +kernel
theorem dX4_changeNames_6 : decode cX4_changeNames 6 = .ok (.iconst 1, 1) := by decide +kernel
theorem dX4_changeNames_7 : decode cX4_changeNames 7 = .ok (.invokevirtual 53, 3) := by decide +kernel
theorem dX4_changeNames_10 : decode cX4_changeNames 10 = .ok (.istore_n 3, 1) := by decide +kernel
theorem dX4_changeNames_11 : decode cX4_changeNames 11 = .ok (.iconst 0, 1) := by decide +kernel
theorem dX4_changeNames_12 : decode cX4_changeNames 12 = .ok (.istore 4, 2) := by decide +kernel
theorem dX4_changeNames_14 : decode cX4_changeNames 14 = .ok (.iload 4, 2) := by decide +kernel
theorem dX4_changeNames_16 : decode cX4_changeNames 16 = .ok (.aload_n 0, 1) := by decide +kernel
theorem dX4_changeNames_17 : decode cX4_changeNames 17 = .ok (.getfield 7, 3) := by decide +kernel
theorem dX4_changeNames_20 : decode cX4_changeNames 20 = .ok (.iconst 2, 1) := by decide +kernel
theorem dX4_changeNames_21 : decode cX4_changeNames 21 = .ok (.iaload, 1) := by decide +kernel
theorem dX4_changeNames_22 : decode cX4_changeNames 22 = .ok (.if_icmp .ge 163, 3) := by decide +kernel
theorem dX4_changeNames_25 : decode cX4_changeNames 25 = .ok (.aload_n 0, 1) := by decide +kernel
theorem dX4_changeNames_26 : decode cX4_changeNames 26 = .ok (.aload_n 0, 1) := by decide +kernel
theorem dX4_changeNames_27 : decode cX4_changeNames 27 = .ok (.iload 4, 2) := by decide +kernel
theorem dX4_changeNames_29 : decode cX4_changeNames 29 = .ok (.iconst 1, 1) := by decide +kernel
theorem dX4_changeNames_30 : decode cX4_changeNames 30 = .ok (.invokevirtual 45, 3) := by decide +kernel
theorem dX4_changeNames_33 : decode cX4_changeNames 33 = .ok (.iload_n 3, 1) := by decide +kernel
theorem dX4_changeNames_34 : decode cX4_changeNames 34 = .ok (.invokevirtual 60, 3) := by decide +kernel
theorem dX4_changeNames_37 : decode cX4_changeNames 37 = .ok (.iload_n 1, 1) := by decide +kernel
theorem dX4_changeNames_38 : decode cX4_changeNames 38 = .ok (.ishr, 1) := by decide +kernel
theorem dX4_changeNames_39 : decode cX4_changeNames 39 = .ok (.iconst 1, 1) := by decide +kernel
theorem dX4_changeNames_40 : decode cX4_changeNames 40 = .ok (.iand, 1) := by decide +kernel
theorem dX4_changeNames_41 : decode cX4_changeNames 41 = .ok (.iconst 1, 1) := by decide +kernel
theorem dX4_changeNames_42 : decode cX4_changeNames 42 = .ok (.if_icmp .ne 7, 3) := by decide +kernel
theorem dX4_changeNames_45 : decode cX4_changeNames 45 = .ok (.iconst 1, 1) := by decide +kernel
theorem dX4_changeNames_46 : decode cX4_changeNames 46 = .ok (.goto 4, 3) := by decide +kernel
theorem dX4_changeNames_49 : decode cX4_changeNames 49 = .ok (.iconst 0, 1) := by decide +kernel
theorem dX4_changeNames_50 : decode cX4_changeNames 50 = .ok (.istore 5, 2) := by decide +kernel
theorem dX4_changeNames_52 : decode cX4_changeNames 52 = .ok (.bipush 110, 2) := by decide +kernel
theorem dX4_changeNames_54 : decode cX4_changeNames 54 = .ok (.bipush 6, 2) := by decide +kernel
theorem dX4_changeNames_56 : decode cX4_changeNames 56 = .ok (.iload 4, 2) := by decide +kernel
theorem dX4_changeNames_58 : decode cX4_changeNames 58 = .ok (.imul, 1) := by decide +kernel
theorem dX4_changeNames_59 : decode cX4_changeNames 59 = .ok (.iadd, 1) := by decide +kernel
theorem dX4_changeNames_60 : decode cX4_changeNames 60 = .ok (.istore 6, 2) := by decide +kernel
theorem dX4_changeNames_62 : decode cX4_changeNames 62 = .ok (.iload 5, 2) := by decide +kernel
theorem dX4_changeNames_64 : decode cX4_changeNames 64 = .ok (.ifCond .eq 71, 3) := by decide +kernel
theorem dX4_changeNames_67 : decode cX4_changeNames 67 = .ok (.aload_n 0, 1) := by decide +kernel
theorem dX4_changeNames_68 : decode cX4_changeNames 68 = .ok (.iload 4, 2) := by decide +kernel
theorem dX4_changeNames_70 : decode cX4_changeNames 70 = .ok (.invokevirtual 56, 3) := by decide +kernel
theorem dX4_changeNames_73 : decode cX4_changeNames 73 = .ok (.ifCond .eq 62, 3) := by decide +kernel
theorem dX4_changeNames_76 : decode cX4_changeNames 76 = .ok (.aload_n 0, 1) := by decide +kernel
theorem dX4_changeNames_77 : decode cX4_changeNames 77 = .ok (.iload 4, 2) := by decide +kernel
theorem dX4_changeNames_79 : decode cX4_changeNames 79 = .ok (.iconst 2, 1) := by decide +kernel
theorem dX4_changeNames_80 : decode cX4_changeNames 80 = .ok (.invokevirtual 45, 3) := by decide +kernel
theorem dX4_changeNames_83 : decode cX4_changeNames 83 = .ok (.iload_n 3, 1) := by decide +kernel
theorem dX4_changeNames_84 : decode cX4_changeNames 84 = .ok (.if_icmp .ne 51, 3) := by decide +kernel
theorem dX4_changeNames_87 : decode cX4_changeNames 87 = .ok (.aload_n 0, 1) := by decide +kernel
theorem dX4_changeNames_88 : decode cX4_changeNames 88 = .ok (.getfield 7, 3) := by decide +kernel
theorem dX4_changeNames_91 : decode cX4_changeNames 91 = .ok (.iload 6, 2) := by decide +kernel
theorem dX4_changeNames_93 : decode cX4_changeNames 93 = .ok (.iconst 2, 1) := by decide +kernel
theorem dX4_changeNames_94 : decode cX4_changeNames 94 = .ok (.iadd, 1) := by decide +kernel
theorem dX4_changeNames_95 : decode cX4_changeNames 95 = .ok (.iload_n 2, 1) := by decide +kernel
theorem dX4_changeNames_96 : decode cX4_changeNames 96 = .ok (.iastore, 1) := by decide +kernel
theorem dX4_changeNames_97 : decode cX4_changeNames 97 = .ok (.aload_n 0, 1) := by decide +kernel
theorem dX4_changeNames_98 : decode cX4_changeNames 98 = .ok (.getfield 7, 3) := by decide +kernel
theorem dX4_changeNames_101 : decode cX4_changeNames 101 = .ok (.iload 6, 2) := by decide +kernel
theorem dX4_changeNames_103 : decode cX4_changeNames 103 = .ok (.iconst 3, 1) := by decide +kernel
theorem dX4_changeNames_104 : decode cX4_changeNames 104 = .ok (.iadd, 1) := by decide +kernel
theorem dX4_changeNames_105 : decode cX4_changeNames 105 = .ok (.aload_n 0, 1) := by decide +kernel
theorem dX4_changeNames_106 : decode cX4_changeNames 106 = .ok (.getfield 7, 3) := by decide +kernel
theorem dX4_changeNames_109 : decode cX4_changeNames 109 = .ok (.iload 6, 2) := by decide +kernel
theorem dX4_changeNames_111 : decode cX4_changeNames 111 = .ok (.iconst 3, 1) := by decide +kernel
theorem dX4_changeNames_112 : decode cX4_changeNames 112 = .ok (.iadd, 1) := by decide +kernel
theorem dX4_changeNames_113 : decode cX4_changeNames 113 = .ok (.iaload, 1) := by decide +kernel
theorem dX4_changeNames_114 : decode cX4_changeNames 114 = .ok (.iload_n 3, 1) := by decide +kernel
theorem dX4_changeNames_115 : decode cX4_changeNames 115 = .ok (.if_icmp .ne 7, 3) := by decide +kernel
theorem dX4_changeNames_118 : decode cX4_changeNames 118 = .ok (.iload_n 2, 1) := by decide +kernel
theorem dX4_changeNames_119 : decode cX4_changeNames 119 = .ok (.goto 12, 3) := by decide +kernel
theorem dX4_changeNames_122 : decode cX4_changeNames 122 = .ok (.aload_n 0, 1) := by decide +kernel
theorem dX4_changeNames_123 : decode cX4_changeNames 123 = .ok (.getfield 7, 3) := by decide +kernel
theorem dX4_changeNames_126 : decode cX4_changeNames 126 = .ok (.iload 6, 2) := by decide +kernel
theorem dX4_changeNames_128 : decode cX4_changeNames 128 = .ok (.iconst 3, 1) := by decide +kernel
theorem dX4_changeNames_129 : decode cX4_changeNames 129 = .ok (.iadd, 1) := by decide +kernel
theorem dX4_changeNames_130 : decode cX4_changeNames 130 = .ok (.iaload, 1) := by decide +kernel
theorem dX4_changeNames_131 : decode cX4_changeNames 131 = .ok (.iastore, 1) := by decide +kernel
theorem dX4_changeNames_132 : decode cX4_changeNames 132 = .ok (.goto 47, 3) := by decide +kernel
theorem dX4_changeNames_135 : decode cX4_changeNames 135 = .ok (.iload 5, 2) := by decide +kernel
theorem dX4_changeNames_137 : decode cX4_changeNames 137 = .ok (.ifCond .eq 42, 3) := by decide +kernel
theorem dX4_changeNames_140 : decode cX4_changeNames 140 = .ok (.aload_n 0, 1) := by decide +kernel
theorem dX4_changeNames_141 : decode cX4_changeNames 141 = .ok (.iload 4, 2) := by decide +kernel
theorem dX4_changeNames_143 : decode cX4_changeNames 143 = .ok (.invokevirtual 56, 3) := by decide +kernel
theorem dX4_changeNames_146 : decode cX4_changeNames 146 = .ok (.ifCond .ne 33, 3) := by decide +kernel
theorem dX4_changeNames_149 : decode cX4_changeNames 149 = .ok (.aload_n 0, 1) := by decide +kernel
theorem dX4_changeNames_150 : decode cX4_changeNames 150 = .ok (.iload 4, 2) := by decide +kernel
theorem dX4_changeNames_152 : decode cX4_changeNames 152 = .ok (.iconst 4, 1) := by decide +kernel
theorem dX4_changeNames_153 : decode cX4_changeNames 153 = .ok (.invokevirtual 45, 3) := by decide +kernel
theorem dX4_changeNames_156 : decode cX4_changeNames 156 = .ok (.iload_n 3, 1) := by decide +kernel
theorem dX4_changeNames_157 : decode cX4_changeNames 157 = .ok (.ishr, 1) := by decide +kernel
theorem dX4_changeNames_158 : decode cX4_changeNames 158 = .ok (.iconst 1, 1) := by decide +kernel
theorem dX4_changeNames_159 : decode cX4_changeNames 159 = .ok (.iand, 1) := by decide +kernel
theorem dX4_changeNames_160 : decode cX4_changeNames 160 = .ok (.iconst 1, 1) := by decide +kernel
theorem dX4_changeNames_161 : decode cX4_changeNames 161 = .ok (.if_icmp .ne 18, 3) := by decide +kernel
theorem dX4_changeNames_164 : decode cX4_changeNames 164 = .ok (.aload_n 0, 1) := by decide +kernel
theorem dX4_changeNames_165 : decode cX4_changeNames 165 = .ok (.getfield 7, 3) := by decide +kernel
theorem dX4_changeNames_168 : decode cX4_changeNames 168 = .ok (.iload 6, 2) := by decide +kernel
theorem dX4_changeNames_170 : decode cX4_changeNames 170 = .ok (.iconst 4, 1) := by decide +kernel
theorem dX4_changeNames_171 : decode cX4_changeNames 171 = .ok (.iadd, 1) := by decide +kernel
theorem dX4_changeNames_172 : decode cX4_changeNames 172 = .ok (.dup2, 1) := by decide +kernel
theorem dX4_changeNames_173 : decode cX4_changeNames 173 = .ok (.iaload, 1) := by decide +kernel
theorem dX4_changeNames_174 : decode cX4_changeNames 174 = .ok (.iconst 1, 1) := by decide +kernel
theorem dX4_changeNames_175 : decode cX4_changeNames 175 = .ok (.iload_n 2, 1) := by decide +kernel
theorem dX4_changeNames_176 : decode cX4_changeNames 176 = .ok (.ishl, 1) := by decide +kernel
theorem dX4_changeNames_177 : decode cX4_changeNames 177 = .ok (.ior, 1) := by decide +kernel
theorem dX4_changeNames_178 : decode cX4_changeNames 178 = .ok (.iastore, 1) := by decide +kernel
theorem dX4_changeNames_179 : decode cX4_changeNames 179 = .ok (.iinc 4 1, 3) := by decide +kernel
theorem dX4_changeNames_182 : decode cX4_changeNames 182 = .ok (.goto (-168), 3) := by decide +kernel
theorem dX4_changeNames_185 : decode cX4_changeNames 185 = .ok (.iconst 0, 1) := by decide +kernel
theorem dX4_changeNames_186 : decode cX4_changeNames 186 = .ok (.istore 4, 2) := by decide +kernel
theorem dX4_changeNames_188 : decode cX4_changeNames 188 = .ok (.iload 4, 2) := by decide +kernel
theorem dX4_changeNames_190 : decode cX4_changeNames 190 = .ok (.aload_n 0, 1) := by decide +kernel
theorem dX4_changeNames_191 : decode cX4_changeNames 191 = .ok (.getfield 7, 3) := by decide +kernel
theorem dX4_changeNames_194 : decode cX4_changeNames 194 = .ok (.iconst 3, 1) := by decide +kernel
theorem dX4_changeNames_195 : decode cX4_changeNames 195 = .ok (.iaload, 1) := by decide +kernel
theorem dX4_changeNames_196 : decode cX4_changeNames 196 = .ok (.if_icmp .ge 69, 3) := by decide +kernel
theorem dX4_changeNames_199 : decode cX4_changeNames 199 = .ok (.aload_n 0, 1) := by decide +kernel
theorem dX4_changeNames_200 : decode cX4_changeNames 200 = .ok (.iload 4, 2) := by decide +kernel
theorem dX4_changeNames_202 : decode cX4_changeNames 202 = .ok (.invokevirtual 97, 3) := by decide +kernel
theorem dX4_changeNames_205 : decode cX4_changeNames 205 = .ok (.iload_n 3, 1) := by decide +kernel
theorem dX4_changeNames_206 : decode cX4_changeNames 206 = .ok (.if_icmp .ne 20, 3) := by decide +kernel
theorem dX4_changeNames_209 : decode cX4_changeNames 209 = .ok (.aload_n 0, 1) := by decide +kernel
theorem dX4_changeNames_210 : decode cX4_changeNames 210 = .ok (.getfield 31, 3) := by decide +kernel
theorem dX4_changeNames_213 : decode cX4_changeNames 213 = .ok (.iload 4, 2) := by decide +kernel
theorem dX4_changeNames_215 : decode cX4_changeNames 215 = .ok (.iaload, 1) := by decide +kernel
theorem dX4_changeNames_216 : decode cX4_changeNames 216 = .ok (.iconst 1, 1) := by decide +kernel
theorem dX4_changeNames_217 : decode cX4_changeNames 217 = .ok (.iload_n 1, 1) := by decide +kernel
theorem dX4_changeNames_218 : decode cX4_changeNames 218 = .ok (.ishl, 1) := by decide +kernel
theorem dX4_changeNames_219 : decode cX4_changeNames 219 = .ok (.if_icmp .ne 7, 3) := by decide +kernel
theorem dX4_changeNames_222 : decode cX4_changeNames 222 = .ok (.iconst 1, 1) := by decide +kernel
theorem dX4_changeNames_223 : decode cX4_changeNames 223 = .ok (.goto 4, 3) := by decide +kernel
theorem dX4_changeNames_226 : decode cX4_changeNames 226 = .ok (.iconst 0, 1) := by decide +kernel
theorem dX4_changeNames_227 : decode cX4_changeNames 227 = .ok (.istore 5, 2) := by decide +kernel
theorem dX4_changeNames_229 : decode cX4_changeNames 229 = .ok (.aload_n 0, 1) := by decide +kernel
theorem dX4_changeNames_230 : decode cX4_changeNames 230 = .ok (.getfield 7, 3) := by decide +kernel
theorem dX4_changeNames_233 : decode cX4_changeNames 233 = .ok (.sipush 230, 3) := by decide +kernel
theorem dX4_changeNames_236 : decode cX4_changeNames 236 = .ok (.iconst 2, 1) := by decide +kernel
theorem dX4_changeNames_237 : decode cX4_changeNames 237 = .ok (.iload 4, 2) := by decide +kernel
theorem dX4_changeNames_239 : decode cX4_changeNames 239 = .ok (.imul, 1) := by decide +kernel
theorem dX4_changeNames_240 : decode cX4_changeNames 240 = .ok (.iadd, 1) := by decide +kernel
theorem dX4_changeNames_241 : decode cX4_changeNames 241 = .ok (.iconst 1, 1) := by decide +kernel
theorem dX4_changeNames_242 : decode cX4_changeNames 242 = .ok (.iadd, 1) := by decide +kernel
theorem dX4_changeNames_243 : decode cX4_changeNames 243 = .ok (.iload 5, 2) := by decide +kernel
theorem dX4_changeNames_245 : decode cX4_changeNames 245 = .ok (.ifCond .eq 7, 3) := by decide +kernel
theorem dX4_changeNames_248 : decode cX4_changeNames 248 = .ok (.iload_n 2, 1) := by decide +kernel
theorem dX4_changeNames_249 : decode cX4_changeNames 249 = .ok (.goto 9, 3) := by decide +kernel
theorem dX4_changeNames_252 : decode cX4_changeNames 252 = .ok (.aload_n 0, 1) := by decide +kernel
theorem dX4_changeNames_253 : decode cX4_changeNames 253 = .ok (.iload 4, 2) := by decide +kernel
theorem dX4_changeNames_255 : decode cX4_changeNames 255 = .ok (.invokevirtual 97, 3) := by decide +kernel
theorem dX4_changeNames_258 : decode cX4_changeNames 258 = .ok (.iastore, 1) := by decide +kernel
theorem dX4_changeNames_259 : decode cX4_changeNames 259 = .ok (.iinc 4 1, 3) := by decide +kernel
theorem dX4_changeNames_262 : decode cX4_changeNames 262 = .ok (.goto (-74), 3) := by decide +kernel
theorem dX4_changeNames_265 : decode cX4_changeNames 265 = .ok (.aload_n 0, 1) := by decide +kernel
theorem dX4_changeNames_266 : decode cX4_changeNames 266 = .ok (.getfield 7, 3) := by decide +kernel
theorem dX4_changeNames_269 : decode cX4_changeNames 269 = .ok (.bipush 20, 2) := by decide +kernel
theorem dX4_changeNames_271 : decode cX4_changeNames 271 = .ok (.iconst 3, 1) := by decide +kernel
theorem dX4_changeNames_272 : decode cX4_changeNames 272 = .ok (.iload_n 1, 1) := by decide +kernel
theorem dX4_changeNames_273 : decode cX4_changeNames 273 = .ok (.imul, 1) := by decide +kernel
theorem dX4_changeNames_274 : decode cX4_changeNames 274 = .ok (.iadd, 1) := by decide +kernel
theorem dX4_changeNames_275 : decode cX4_changeNames 275 = .ok (.iconst 1, 1) := by decide +kernel
theorem dX4_changeNames_276 : decode cX4_changeNames 276 = .ok (.iadd, 1) := by decide +kernel
theorem dX4_changeNames_277 : decode cX4_changeNames 277 = .ok (.iload_n 2, 1) := by decide +kernel
theorem dX4_changeNames_278 : decode cX4_changeNames 278 = .ok (.iastore, 1) := by decide +kernel
theorem dX4_changeNames_279 : decode cX4_changeNames 279 = .ok (.aload_n 0, 1) := by decide +kernel
theorem dX4_changeNames_280 : decode cX4_changeNames 280 = .ok (.iconst 0, 1) := by decide +kernel
theorem dX4_changeNames_281 : decode cX4_changeNames 281 = .ok (.putfield 49, 3) := by decide +kernel
theorem dX4_changeNames_284 : decode cX4_changeNames 284 = .ok (.return_, 1) := by decide +kernel
theorem dX4_renames_0 : decode cX4_renames 0 = .ok (.aload_n 0, 1) := by decide +kernel
theorem dX4_renames_1 : decode cX4_renames 1 = .ok (.invokevirtual 121, 3) := by decide +kernel
theorem dX4_renames_4 : decode cX4_renames 4 = .ok (.aload_n 0, 1) := by decide +kernel
theorem dX4_renames_5 : decode cX4_renames 5 = .ok (.iconst (-1), 1) := by decide +kernel
theorem dX4_renames_6 : decode cX4_renames 6 = .ok (.putfield 241, 3) := by decide +kernel
theorem dX4_renames_9 : decode cX4_renames 9 = .ok (.aload_n 0, 1) := by decide +kernel
theorem dX4_renames_10 : decode cX4_renames 10 = .ok (.iconst 0, 1) := by decide +kernel
theorem dX4_renames_11 : decode cX4_renames 11 = .ok (.putfield 244, 3) := by decide +kernel
theorem dX4_renames_14 : decode cX4_renames 14 = .ok (.iconst 0, 1) := by decide +kernel
theorem dX4_renames_15 : decode cX4_renames 15 = .ok (.istore 4, 2) := by decide +kernel
theorem dX4_renames_17 : decode cX4_renames 17 = .ok (.iload 4, 2) := by decide +kernel
theorem dX4_renames_19 : decode cX4_renames 19 = .ok (.aload_n 0, 1) := by decide +kernel
theorem dX4_renames_20 : decode cX4_renames 20 = .ok (.getfield 7, 3) := by decide +kernel
theorem dX4_renames_23 : decode cX4_renames 23 = .ok (.iconst 3, 1) := by decide +kernel
theorem dX4_renames_24 : decode cX4_renames 24 = .ok (.iaload, 1) := by decide +kernel
theorem dX4_renames_25 : decode cX4_renames 25 = .ok (.if_icmp .ge 51, 3) := by decide +kernel
theorem dX4_renames_28 : decode cX4_renames 28 = .ok (.aload_n 0, 1) := by decide +kernel
theorem dX4_renames_29 : decode cX4_renames 29 = .ok (.dup, 1) := by decide +kernel
theorem dX4_renames_30 : decode cX4_renames 30 = .ok (.getfield 244, 3) := by decide +kernel
theorem dX4_renames_33 : decode cX4_renames 33 = .ok (.aload_n 0, 1) := by decide +kernel
theorem dX4_renames_34 : decode cX4_renames 34 = .ok (.iload 4, 2) := by decide +kernel
theorem dX4_renames_36 : decode cX4_renames 36 = .ok (.invokevirtual 97, 3) := by decide +kernel
theorem dX4_renames_39 : decode cX4_renames 39 = .ok (.aload_n 0, 1) := by decide +kernel
theorem dX4_renames_40 : decode cX4_renames 40 = .ok (.iload_n 1, 1) := by decide +kernel
theorem dX4_renames_41 : decode cX4_renames 41 = .ok (.iconst 1, 1) := by decide +kernel
theorem dX4_renames_42 : decode cX4_renames 42 = .ok (.invokevirtual 53, 3) := by decide +kernel
theorem dX4_renames_45 : decode cX4_renames 45 = .ok (.if_icmp .ne 20, 3) := by decide +kernel
theorem dX4_renames_48 : decode cX4_renames 48 = .ok (.aload_n 0, 1) := by decide +kernel
theorem dX4_renames_49 : decode cX4_renames 49 = .ok (.getfield 31, 3) := by decide +kernel
theorem dX4_renames_52 : decode cX4_renames 52 = .ok (.iload 4, 2) := by decide +kernel
theorem dX4_renames_54 : decode cX4_renames 54 = .ok (.iaload, 1) := by decide +kernel
theorem dX4_renames_55 : decode cX4_renames 55 = .ok (.iconst 1, 1) := by decide +kernel
theorem dX4_renames_56 : decode cX4_renames 56 = .ok (.iload_n 1, 1) := by decide +kernel
theorem dX4_renames_57 : decode cX4_renames 57 = .ok (.ishl, 1) := by decide +kernel
theorem dX4_renames_58 : decode cX4_renames 58 = .ok (.if_icmp .ne 7, 3) := by decide +kernel
theorem dX4_renames_61 : decode cX4_renames 61 = .ok (.iconst 1, 1) := by decide +kernel
theorem dX4_renames_62 : decode cX4_renames 62 = .ok (.goto 4, 3) := by decide +kernel
theorem dX4_renames_65 : decode cX4_renames 65 = .ok (.iconst 0, 1) := by decide +kernel
theorem dX4_renames_66 : decode cX4_renames 66 = .ok (.iadd, 1) := by decide +kernel
theorem dX4_renames_67 : decode cX4_renames 67 = .ok (.putfield 244, 3) := by decide +kernel
theorem dX4_renames_70 : decode cX4_renames 70 = .ok (.iinc 4 1, 3) := by decide +kernel
theorem dX4_renames_73 : decode cX4_renames 73 = .ok (.goto (-56), 3) := by decide +kernel
theorem dX4_renames_76 : decode cX4_renames 76 = .ok (.iload_n 2, 1) := by decide +kernel
theorem dX4_renames_77 : decode cX4_renames 77 = .ok (.aload_n 0, 1) := by decide +kernel
theorem dX4_renames_78 : decode cX4_renames 78 = .ok (.iload_n 1, 1) := by decide +kernel
theorem dX4_renames_79 : decode cX4_renames 79 = .ok (.iconst 1, 1) := by decide +kernel
theorem dX4_renames_80 : decode cX4_renames 80 = .ok (.invokevirtual 53, 3) := by decide +kernel
theorem dX4_renames_83 : decode cX4_renames 83 = .ok (.if_icmp .eq 18, 3) := by decide +kernel
theorem dX4_renames_86 : decode cX4_renames 86 = .ok (.aload_n 0, 1) := by decide +kernel
theorem dX4_renames_87 : decode cX4_renames 87 = .ok (.aload_n 0, 1) := by decide +kernel
theorem dX4_renames_88 : decode cX4_renames 88 = .ok (.iload_n 1, 1) := by decide +kernel
theorem dX4_renames_89 : decode cX4_renames 89 = .ok (.iconst 0, 1) := by decide +kernel
theorem dX4_renames_90 : decode cX4_renames 90 = .ok (.invokevirtual 53, 3) := by decide +kernel
theorem dX4_renames_93 : decode cX4_renames 93 = .ok (.iload_n 2, 1) := by decide +kernel
theorem dX4_renames_94 : decode cX4_renames 94 = .ok (.invokevirtual 63, 3) := by decide +kernel
theorem dX4_renames_97 : decode cX4_renames 97 = .ok (.iconst (-1), 1) := by decide +kernel
theorem dX4_renames_98 : decode cX4_renames 98 = .ok (.if_icmp .eq 5, 3) := by decide +kernel
theorem dX4_renames_101 : decode cX4_renames 101 = .ok (.iconst 1, 1) := by decide +kernel
theorem dX4_renames_102 : decode cX4_renames 102 = .ok (.ireturn, 1) := by decide +kernel
theorem dX4_renames_103 : decode cX4_renames 103 = .ok (.aload_n 0, 1) := by decide +kernel
theorem dX4_renames_104 : decode cX4_renames 104 = .ok (.aload_n 0, 1) := by decide +kernel
theorem dX4_renames_105 : decode cX4_renames 105 = .ok (.getfield 7, 3) := by decide +kernel
theorem dX4_renames_108 : decode cX4_renames 108 = .ok (.aload_n 0, 1) := by decide +kernel
theorem dX4_renames_109 : decode cX4_renames 109 = .ok (.getfield 13, 3) := by decide +kernel
theorem dX4_renames_112 : decode cX4_renames 112 = .ok (.invokevirtual 223, 3) := by decide +kernel
theorem dX4_renames_115 : decode cX4_renames 115 = .ok (.aload_n 0, 1) := by decide +kernel
theorem dX4_renames_116 : decode cX4_renames 116 = .ok (.iload_n 1, 1) := by decide +kernel
theorem dX4_renames_117 : decode cX4_renames 117 = .ok (.iload_n 2, 1) := by decide +kernel
theorem dX4_renames_118 : decode cX4_renames 118 = .ok (.invokevirtual 247, 3) := by decide +kernel
theorem dX4_renames_121 : decode cX4_renames 121 = .ok (.iconst (-1), 1) := by decide +kernel
theorem dX4_renames_122 : decode cX4_renames 122 = .ok (.istore 4, 2) := by decide +kernel
theorem dX4_renames_124 : decode cX4_renames 124 = .ok (.iconst (-1), 1) := by decide +kernel
theorem dX4_renames_125 : decode cX4_renames 125 = .ok (.istore 5, 2) := by decide +kernel
theorem dX4_renames_127 : decode cX4_renames 127 = .ok (.aload_n 0, 1) := by decide +kernel
theorem dX4_renames_128 : decode cX4_renames 128 = .ok (.getfield 7, 3) := by decide +kernel
theorem dX4_renames_131 : decode cX4_renames 131 = .ok (.iconst 3, 1) := by decide +kernel
theorem dX4_renames_132 : decode cX4_renames 132 = .ok (.iaload, 1) := by decide +kernel
theorem dX4_renames_133 : decode cX4_renames 133 = .ok (.iconst 1, 1) := by decide +kernel
theorem dX4_renames_134 : decode cX4_renames 134 = .ok (.isub, 1) := by decide +kernel
theorem dX4_renames_135 : decode cX4_renames 135 = .ok (.istore 6, 2) := by decide +kernel
theorem dX4_renames_137 : decode cX4_renames 137 = .ok (.iload 6, 2) := by decide +kernel
theorem dX4_renames_139 : decode cX4_renames 139 = .ok (.ifCond .lt 86, 3) := by decide +kernel
theorem dX4_renames_142 : decode cX4_renames 142 = .ok (.aload_n 0, 1) := by decide +kernel
theorem dX4_renames_143 : decode cX4_renames 143 = .ok (.iload 6, 2) := by decide +kernel
theorem dX4_renames_145 : decode cX4_renames 145 = .ok (.invokevirtual 118, 3) := by decide +kernel
theorem dX4_renames_148 : decode cX4_renames 148 = .ok (.aload_n 0, 1) := by decide +kernel
theorem dX4_renames_149 : decode cX4_renames 149 = .ok (.getfield 31, 3) := by decide +kernel
theorem dX4_renames_152 : decode cX4_renames 152 = .ok (.iload 6, 2) := by decide +kernel
theorem dX4_renames_154 : decode cX4_renames 154 = .ok (.iaload, 1) := by decide +kernel
theorem dX4_renames_155 : decode cX4_renames 155 = .ok (.if_icmp .eq 7, 3) := by decide +kernel
theorem dX4_renames_158 : decode cX4_renames 158 = .ok (.iconst 1, 1) := by decide +kernel
theorem dX4_renames_159 : decode cX4_renames 159 = .ok (.goto 4, 3) := by decide +kernel
theorem dX4_renames_162 : decode cX4_renames 162 = .ok (.iconst 0, 1) := by decide +kernel
theorem dX4_renames_163 : decode cX4_renames 163 = .ok (.istore 7, 2) := by decide +kernel
theorem dX4_renames_165 : decode cX4_renames 165 = .ok (.iload 7, 2) := by decide +kernel
theorem dX4_renames_167 : decode cX4_renames 167 = .ok (.ifCond .eq 21, 3) := by decide +kernel
theorem dX4_renames_170 : decode cX4_renames 170 = .ok (.aload_n 0, 1) := by decide +kernel
theorem dX4_renames_171 : decode cX4_renames 171 = .ok (.getfield 31, 3) := by decide +kernel
theorem dX4_renames_174 : decode cX4_renames 174 = .ok (.iload 6, 2) := by decide +kernel
theorem dX4_renames_176 : decode cX4_renames 176 = .ok (.iaload, 1) := by decide +kernel
theorem dX4_renames_177 : decode cX4_renames 177 = .ok (.iconst 1, 1) := by decide +kernel
theorem dX4_renames_178 : decode cX4_renames 178 = .ok (.iload_n 1, 1) := by decide +kernel
theorem dX4_renames_179 : decode cX4_renames 179 = .ok (.ishl, 1) := by decide +kernel
theorem dX4_renames_180 : decode cX4_renames 180 = .ok (.if_icmp .ne 8, 3) := by decide +kernel
theorem dX4_renames_183 : decode cX4_renames 183 = .ok (.iload 6, 2) := by decide +kernel
theorem dX4_renames_185 : decode cX4_renames 185 = .ok (.goto 5, 3) := by decide +kernel
theorem dX4_renames_188 : decode cX4_renames 188 = .ok (.iload 4, 2) := by decide +kernel
theorem dX4_renames_190 : decode cX4_renames 190 = .ok (.istore 4, 2) := by decide +kernel
theorem dX4_renames_192 : decode cX4_renames 192 = .ok (.iload 7, 2) := by decide +kernel
theorem dX4_renames_194 : decode cX4_renames 194 = .ok (.ifCond .eq 21, 3) := by decide +kernel
theorem dX4_renames_197 : decode cX4_renames 197 = .ok (.aload_n 0, 1) := by decide +kernel
theorem dX4_renames_198 : decode cX4_renames 198 = .ok (.getfield 31, 3) := by decide +kernel
theorem dX4_renames_201 : decode cX4_renames 201 = .ok (.iload 6, 2) := by decide +kernel
theorem dX4_renames_203 : decode cX4_renames 203 = .ok (.iaload, 1) := by decide +kernel
theorem dX4_renames_204 : decode cX4_renames 204 = .ok (.iconst 1, 1) := by decide +kernel
theorem dX4_renames_205 : decode cX4_renames 205 = .ok (.iload_n 1, 1) := by decide +kernel
theorem dX4_renames_206 : decode cX4_renames 206 = .ok (.ishl, 1) := by decide +kernel
theorem dX4_renames_207 : decode cX4_renames 207 = .ok (.if_icmp .eq 8, 3) := by decide +kernel
theorem dX4_renames_210 : decode cX4_renames 210 = .ok (.iload 6, 2) := by decide +kernel
theorem dX4_renames_212 : decode cX4_renames 212 = .ok (.goto 5, 3) := by decide +kernel
theorem dX4_renames_215 : decode cX4_renames 215 = .ok (.iload 5, 2) := by decide +kernel
theorem dX4_renames_217 : decode cX4_renames 217 = .ok (.istore 5, 2) := by decide +kernel
theorem dX4_renames_219 : decode cX4_renames 219 = .ok (.iinc 6 (-1), 3) := by decide +kernel
theorem dX4_renames_222 : decode cX4_renames 222 = .ok (.goto (-85), 3) := by decide +kernel
theorem dX4_renames_225 : decode cX4_renames 225 = .ok (.iload 4, 2) := by decide +kernel
theorem dX4_renames_227 : decode cX4_renames 227 = .ok (.iconst (-1), 1) := by decide +kernel
theorem dX4_renames_228 : decode cX4_renames 228 = .ok (.if_icmp .eq 7, 3) := by decide +kernel
theorem dX4_renames_231 : decode cX4_renames 231 = .ok (.iconst 2, 1) := by decide +kernel
theorem dX4_renames_232 : decode cX4_renames 232 = .ok (.goto 14, 3) := by decide +kernel
theorem dX4_renames_235 : decode cX4_renames 235 = .ok (.iload 5, 2) := by decide +kernel
theorem dX4_renames_237 : decode cX4_renames 237 = .ok (.iconst (-1), 1) := by decide +kernel
theorem dX4_renames_238 : decode cX4_renames 238 = .ok (.if_icmp .eq 7, 3) := by decide +kernel
theorem dX4_renames_241 : decode cX4_renames 241 = .ok (.iconst 3, 1) := by decide +kernel
theorem dX4_renames_242 : decode cX4_renames 242 = .ok (.goto 4, 3) := by decide +kernel
theorem dX4_renames_245 : decode cX4_renames 245 = .ok (.iconst 0, 1) := by decide +kernel
theorem dX4_renames_246 : decode cX4_renames 246 = .ok (.istore 6, 2) := by decide +kernel
theorem dX4_renames_248 : decode cX4_renames 248 = .ok (.aload_n 0, 1) := by decide +kernel
theorem dX4_renames_249 : decode cX4_renames 249 = .ok (.iload 4, 2) := by decide +kernel
theorem dX4_renames_251 : decode cX4_renames 251 = .ok (.iconst (-1), 1) := by decide +kernel
theorem dX4_renames_252 : decode cX4_renames 252 = .ok (.if_icmp .eq 8, 3) := by decide +kernel
theorem dX4_renames_255 : decode cX4_renames 255 = .ok (.iload 4, 2) := by decide +kernel
theorem dX4_renames_257 : decode cX4_renames 257 = .ok (.goto 5, 3) := by decide +kernel
theorem dX4_renames_260 : decode cX4_renames 260 = .ok (.iload 5, 2) := by decide +kernel
theorem dX4_renames_262 : decode cX4_renames 262 = .ok (.putfield 241, 3) := by decide +kernel
theorem dX4_renames_265 : decode cX4_renames 265 = .ok (.iload_n 3, 1) := by decide +kernel
theorem dX4_renames_266 : decode cX4_renames 266 = .ok (.ifCond .ne 8, 3) := by decide +kernel
theorem dX4_renames_269 : decode cX4_renames 269 = .ok (.iload 6, 2) := by decide +kernel
theorem dX4_renames_271 : decode cX4_renames 271 = .ok (.ifCond .le 15, 3) := by decide +kernel
theorem dX4_renames_274 : decode cX4_renames 274 = .ok (.aload_n 0, 1) := by decide +kernel
theorem dX4_renames_275 : decode cX4_renames 275 = .ok (.aload_n 0, 1) := by decide +kernel
theorem dX4_renames_276 : decode cX4_renames 276 = .ok (.getfield 13, 3) := by decide +kernel
theorem dX4_renames_279 : decode cX4_renames 279 = .ok (.aload_n 0, 1) := by decide +kernel
theorem dX4_renames_280 : decode cX4_renames 280 = .ok (.getfield 7, 3) := by decide +kernel
theorem dX4_renames_283 : decode cX4_renames 283 = .ok (.invokevirtual 223, 3) := by decide +kernel
theorem dX4_renames_286 : decode cX4_renames 286 = .ok (.iload 6, 2) := by decide +kernel
theorem dX4_renames_288 : decode cX4_renames 288 = .ok (.ireturn, 1) := by decide +kernel
theorem dX4_isDeclaration_0 : decode cX4_isDeclaration 0 = .ok (.iload_n 1, 1) := by decide +kernel
theorem dX4_isDeclaration_1 : decode cX4_isDeclaration 1 = .ok (.iconst 0, 1) := by decide +kernel
theorem dX4_isDeclaration_2 : decode cX4_isDeclaration 2 = .ok (.aload_n 0, 1) := by decide +kernel
theorem dX4_isDeclaration_3 : decode cX4_isDeclaration 3 = .ok (.getfield 7, 3) := by decide +kernel
theorem dX4_isDeclaration_6 : decode cX4_isDeclaration 6 = .ok (.iconst 1, 1) := by decide +kernel
theorem dX4_isDeclaration_7 : decode cX4_isDeclaration 7 = .ok (.iaload, 1) := by decide +kernel
theorem dX4_isDeclaration_8 : decode cX4_isDeclaration 8 = .ok (.iconst 1, 1) := by decide +kernel
theorem dX4_isDeclaration_9 : decode cX4_isDeclaration 9 = .ok (.isub, 1) := by decide +kernel
theorem dX4_isDeclaration_10 : decode cX4_isDeclaration 10 = .ok (.invokestatic 41, 3) := by decide +kernel
theorem dX4_isDeclaration_13 : decode cX4_isDeclaration 13 = .ok (.ireturn, 1) := by decide +kernel
theorem dX4_rename_0 : decode cX4_rename 0 = .ok (.aload_n 0, 1) := by decide +kernel
theorem dX4_rename_1 : decode cX4_rename 1 = .ok (.aload_n 0, 1) := by decide +kernel
theorem dX4_rename_2 : decode cX4_rename 2 = .ok (.iload_n 1, 1) := by decide +kernel
theorem dX4_rename_3 : decode cX4_rename 3 = .ok (.invokevirtual 250, 3) := by decide +kernel
theorem dX4_rename_6 : decode cX4_rename 6 = .ok (.ifCond .ne 7, 3) := by decide +kernel
theorem dX4_rename_9 : decode cX4_rename 9 = .ok (.iconst 1, 1) := by decide +kernel
theorem dX4_rename_10 : decode cX4_rename 10 = .ok (.goto 15, 3) := by decide +kernel
theorem dX4_rename_13 : decode cX4_rename 13 = .ok (.iload_n 2, 1) := by decide +kernel
theorem dX4_rename_14 : decode cX4_rename 14 = .ok (.invokestatic 106, 3) := by decide +kernel
theorem dX4_rename_17 : decode cX4_rename 17 = .ok (.ifCond .eq 7, 3) := by decide +kernel
theorem dX4_rename_20 : decode cX4_rename 20 = .ok (.iconst 0, 1) := by decide +kernel
theorem dX4_rename_21 : decode cX4_rename 21 = .ok (.goto 4, 3) := by decide +kernel
theorem dX4_rename_24 : decode cX4_rename 24 = .ok (.iconst 2, 1) := by decide +kernel
theorem dX4_rename_25 : decode cX4_rename 25 = .ok (.putfield 37, 3) := by decide +kernel
theorem dX4_rename_28 : decode cX4_rename 28 = .ok (.aload_n 0, 1) := by decide +kernel
theorem dX4_rename_29 : decode cX4_rename 29 = .ok (.getfield 37, 3) := by decide +kernel
theorem dX4_rename_32 : decode cX4_rename 32 = .ok (.ifCond .le 7, 3) := by decide +kernel
theorem dX4_rename_35 : decode cX4_rename 35 = .ok (.iconst 0, 1) := by decide +kernel
theorem dX4_rename_36 : decode cX4_rename 36 = .ok (.goto 10, 3) := by decide +kernel
theorem dX4_rename_39 : decode cX4_rename 39 = .ok (.aload_n 0, 1) := by decide +kernel
theorem dX4_rename_40 : decode cX4_rename 40 = .ok (.iload_n 1, 1) := by decide +kernel
theorem dX4_rename_41 : decode cX4_rename 41 = .ok (.iload_n 2, 1) := by decide +kernel
theorem dX4_rename_42 : decode cX4_rename 42 = .ok (.iconst 0, 1) := by decide +kernel
theorem dX4_rename_43 : decode cX4_rename 43 = .ok (.invokevirtual 253, 3) := by decide +kernel
theorem dX4_rename_46 : decode cX4_rename 46 = .ok (.ireturn, 1) := by decide +kernel
theorem dX4_ifRenamed_0 : decode cX4_ifRenamed 0 = .ok (.aload_n 0, 1) := by decide +kernel
theorem dX4_ifRenamed_1 : decode cX4_ifRenamed 1 = .ok (.aload_n 0, 1) := by decide +kernel
theorem dX4_ifRenamed_2 : decode cX4_ifRenamed 2 = .ok (.iload_n 1, 1) := by decide +kernel
theorem dX4_ifRenamed_3 : decode cX4_ifRenamed 3 = .ok (.invokevirtual 250, 3) := by decide +kernel
theorem dX4_ifRenamed_6 : decode cX4_ifRenamed 6 = .ok (.ifCond .ne 7, 3) := by decide +kernel
theorem dX4_ifRenamed_9 : decode cX4_ifRenamed 9 = .ok (.iconst 1, 1) := by decide +kernel
theorem dX4_ifRenamed_10 : decode cX4_ifRenamed 10 = .ok (.goto 24, 3) := by decide +kernel
theorem dX4_ifRenamed_13 : decode cX4_ifRenamed 13 = .ok (.iload_n 2, 1) := by decide +kernel
theorem dX4_ifRenamed_14 : decode cX4_ifRenamed 14 = .ok (.invokestatic 106, 3) := by decide +kernel
theorem dX4_ifRenamed_17 : decode cX4_ifRenamed 17 = .ok (.ifCond .eq 16, 3) := by decide +kernel
theorem dX4_ifRenamed_20 : decode cX4_ifRenamed 20 = .ok (.iload_n 3, 1) := by decide +kernel
theorem dX4_ifRenamed_21 : decode cX4_ifRenamed 21 = .ok (.iconst 0, 1) := by decide +kernel
theorem dX4_ifRenamed_22 : decode cX4_ifRenamed 22 = .ok (.iconst 2, 1) := by decide +kernel
theorem dX4_ifRenamed_23 : decode cX4_ifRenamed 23 = .ok (.invokestatic 41, 3) := by decide +kernel
theorem dX4_ifRenamed_26 : decode cX4_ifRenamed 26 = .ok (.ifCond .eq 7, 3) := by decide +kernel
theorem dX4_ifRenamed_29 : decode cX4_ifRenamed 29 = .ok (.iconst 0, 1) := by decide +kernel
theorem dX4_ifRenamed_30 : decode cX4_ifRenamed 30 = .ok (.goto 4, 3) := by decide +kernel
theorem dX4_ifRenamed_33 : decode cX4_ifRenamed 33 = .ok (.iconst 2, 1) := by decide +kernel
theorem dX4_ifRenamed_34 : decode cX4_ifRenamed 34 = .ok (.putfield 37, 3) := by decide +kernel
theorem dX4_ifRenamed_37 : decode cX4_ifRenamed 37 = .ok (.aload_n 0, 1) := by decide +kernel
theorem dX4_ifRenamed_38 : decode cX4_ifRenamed 38 = .ok (.getfield 37, 3) := by decide +kernel
theorem dX4_ifRenamed_41 : decode cX4_ifRenamed 41 = .ok (.ifCond .le 5, 3) := by decide +kernel
theorem dX4_ifRenamed_44 : decode cX4_ifRenamed 44 = .ok (.iconst 0, 1) := by decide +kernel
theorem dX4_ifRenamed_45 : decode cX4_ifRenamed 45 = .ok (.ireturn, 1) := by decide +kernel
theorem dX4_ifRenamed_46 : decode cX4_ifRenamed 46 = .ok (.aload_n 0, 1) := by decide +kernel
theorem dX4_ifRenamed_47 : decode cX4_ifRenamed 47 = .ok (.iload_n 1, 1) := by decide +kernel
theorem dX4_ifRenamed_48 : decode cX4_ifRenamed 48 = .ok (.iload_n 2, 1) := by decide +kernel
theorem dX4_ifRenamed_49 : decode cX4_ifRenamed 49 = .ok (.iconst 1, 1) := by decide +kernel
theorem dX4_ifRenamed_50 : decode cX4_ifRenamed 50 = .ok (.invokevirtual 253, 3) := by decide +kernel
theorem dX4_ifRenamed_53 : decode cX4_ifRenamed 53 = .ok (.istore 4, 2) := by decide +kernel
theorem dX4_ifRenamed_55 : decode cX4_ifRenamed 55 = .ok (.iload_n 3, 1) := by decide +kernel
theorem dX4_ifRenamed_56 : decode cX4_ifRenamed 56 = .ok (.ifCond .ne 8, 3) := by decide +kernel
theorem dX4_ifRenamed_59 : decode cX4_ifRenamed 59 = .ok (.iload 4, 2) := by decide +kernel
theorem dX4_ifRenamed_61 : decode cX4_ifRenamed 61 = .ok (.goto 19, 3) := by decide +kernel
theorem dX4_ifRenamed_64 : decode cX4_ifRenamed 64 = .ok (.iload_n 3, 1) := by decide +kernel
theorem dX4_ifRenamed_65 : decode cX4_ifRenamed 65 = .ok (.iconst 1, 1) := by decide +kernel
theorem dX4_ifRenamed_66 : decode cX4_ifRenamed 66 = .ok (.if_icmp .ne 10, 3) := by decide +kernel
theorem dX4_ifRenamed_69 : decode cX4_ifRenamed 69 = .ok (.aload_n 0, 1) := by decide +kernel
theorem dX4_ifRenamed_70 : decode cX4_ifRenamed 70 = .ok (.getfield 241, 3) := by decide +kernel
theorem dX4_ifRenamed_73 : decode cX4_ifRenamed 73 = .ok (.goto 7, 3) := by decide +kernel
theorem dX4_ifRenamed_76 : decode cX4_ifRenamed 76 = .ok (.aload_n 0, 1) := by decide +kernel
theorem dX4_ifRenamed_77 : decode cX4_ifRenamed 77 = .ok (.getfield 244, 3) := by decide +kernel
theorem dX4_ifRenamed_80 : decode cX4_ifRenamed 80 = .ok (.ireturn, 1) := by decide +kernel
theorem dX4_freeName_0 : decode cX4_freeName 0 = .ok (.aload_n 0, 1) := by decide +kernel
theorem dX4_freeName_1 : decode cX4_freeName 1 = .ok (.aload_n 0, 1) := by decide +kernel
theorem dX4_freeName_2 : decode cX4_freeName 2 = .ok (.iload_n 1, 1) := by decide +kernel
theorem dX4_freeName_3 : decode cX4_freeName 3 = .ok (.invokevirtual 250, 3) := by decide +kernel
theorem dX4_freeName_6 : decode cX4_freeName 6 = .ok (.ifCond .eq 7, 3) := by decide +kernel
theorem dX4_freeName_9 : decode cX4_freeName 9 = .ok (.iconst 0, 1) := by decide +kernel
theorem dX4_freeName_10 : decode cX4_freeName 10 = .ok (.goto 4, 3) := by decide +kernel
theorem dX4_freeName_13 : decode cX4_freeName 13 = .ok (.iconst 1, 1) := by decide +kernel
theorem dX4_freeName_14 : decode cX4_freeName 14 = .ok (.putfield 37, 3) := by decide +kernel
theorem dX4_freeName_17 : decode cX4_freeName 17 = .ok (.aload_n 0, 1) := by decide +kernel
theorem dX4_freeName_18 : decode cX4_freeName 18 = .ok (.getfield 37, 3) := by decide +kernel
theorem dX4_freeName_21 : decode cX4_freeName 21 = .ok (.ifCond .le 5, 3) := by decide +kernel
theorem dX4_freeName_24 : decode cX4_freeName 24 = .ok (.iconst 0, 1) := by decide +kernel
theorem dX4_freeName_25 : decode cX4_freeName 25 = .ok (.ireturn, 1) := by decide +kernel
theorem dX4_freeName_26 : decode cX4_freeName 26 = .ok (.iconst 0, 1) := by decide +kernel
theorem dX4_freeName_27 : decode cX4_freeName 27 = .ok (.istore_n 2, 1) := by decide +kernel
theorem dX4_freeName_28 : decode cX4_freeName 28 = .ok (.iload_n 2, 1) := by decide +kernel
theorem dX4_freeName_29 : decode cX4_freeName 29 = .ok (.bipush 26, 2) := by decide +kernel
theorem dX4_freeName_31 : decode cX4_freeName 31 = .ok (.if_icmp .ge 19, 3) := by decide +kernel
theorem dX4_freeName_34 : decode cX4_freeName 34 = .ok (.aload_n 0, 1) := by decide +kernel
theorem dX4_freeName_35 : decode cX4_freeName 35 = .ok (.iload_n 1, 1) := by decide +kernel
theorem dX4_freeName_36 : decode cX4_freeName 36 = .ok (.iload_n 2, 1) := by decide +kernel
theorem dX4_freeName_37 : decode cX4_freeName 37 = .ok (.iconst 1, 1) := by decide +kernel
theorem dX4_freeName_38 : decode cX4_freeName 38 = .ok (.invokevirtual 253, 3) := by decide +kernel
theorem dX4_freeName_41 : decode cX4_freeName 41 = .ok (.ifCond .le 9, 3) := by decide +kernel
theorem dX4_freeName_44 : decode cX4_freeName 44 = .ok (.iinc 2 1, 3) := by decide +kernel
theorem dX4_freeName_47 : decode cX4_freeName 47 = .ok (.goto (-19), 3) := by decide +kernel
theorem dX4_freeName_50 : decode cX4_freeName 50 = .ok (.iload_n 2, 1) := by decide +kernel
theorem dX4_freeName_51 : decode cX4_freeName 51 = .ok (.bipush 26, 2) := by decide +kernel
theorem dX4_freeName_53 : decode cX4_freeName 53 = .ok (.if_icmp .ge 7, 3) := by decide +kernel
theorem dX4_freeName_56 : decode cX4_freeName 56 = .ok (.iload_n 2, 1) := by decide +kernel
theorem dX4_freeName_57 : decode cX4_freeName 57 = .ok (.goto 4, 3) := by decide +kernel
theorem dX4_freeName_60 : decode cX4_freeName 60 = .ok (.iconst (-1), 1) := by decide +kernel
theorem dX4_freeName_61 : decode cX4_freeName 61 = .ok (.ireturn, 1) := by decide +kernel
theorem dX4_usesOf_0 : decode cX4_usesOf 0 = .ok (.iconst 0, 1) := by decide +kernel
theorem dX4_usesOf_1 : decode cX4_usesOf 1 = .ok (.istore_n 2, 1) := by decide +kernel
theorem dX4_usesOf_2 : decode cX4_usesOf 2 = .ok (.iconst 0, 1) := by decide +kernel
theorem dX4_usesOf_3 : decode cX4_usesOf 3 = .ok (.istore_n 3, 1) := by decide +kernel
theorem dX4_usesOf_4 : decode cX4_usesOf 4 = .ok (.iload_n 3, 1) := by decide +kernel
theorem dX4_usesOf_5 : decode cX4_usesOf 5 = .ok (.aload_n 0, 1) := by decide +kernel
theorem dX4_usesOf_6 : decode cX4_usesOf 6 = .ok (.getfield 7, 3) := by decide +kernel
theorem dX4_usesOf_9 : decode cX4_usesOf 9 = .ok (.iconst 3, 1) := by decide +kernel
theorem dX4_usesOf_10 : decode cX4_usesOf 10 = .ok (.iaload, 1) := by decide +kernel
theorem dX4_usesOf_11 : decode cX4_usesOf 11 = .ok (.if_icmp .ge 28, 3) := by decide +kernel
theorem dX4_usesOf_14 : decode cX4_usesOf 14 = .ok (.iload_n 2, 1) := by decide +kernel
theorem dX4_usesOf_15 : decode cX4_usesOf 15 = .ok (.aload_n 0, 1) := by decide +kernel
theorem dX4_usesOf_16 : decode cX4_usesOf 16 = .ok (.iload_n 3, 1) := by decide +kernel
theorem dX4_usesOf_17 : decode cX4_usesOf 17 = .ok (.invokevirtual 118, 3) := by decide +kernel
theorem dX4_usesOf_20 : decode cX4_usesOf 20 = .ok (.iconst 1, 1) := by decide +kernel
theorem dX4_usesOf_21 : decode cX4_usesOf 21 = .ok (.iload_n 1, 1) := by decide +kernel
theorem dX4_usesOf_22 : decode cX4_usesOf 22 = .ok (.ishl, 1) := by decide +kernel
theorem dX4_usesOf_23 : decode cX4_usesOf 23 = .ok (.if_icmp .ne 7, 3) := by decide +kernel
theorem dX4_usesOf_26 : decode cX4_usesOf 26 = .ok (.iconst 1, 1) := by decide +kernel
theorem dX4_usesOf_27 : decode cX4_usesOf 27 = .ok (.goto 4, 3) := by decide +kernel
theorem dX4_usesOf_30 : decode cX4_usesOf 30 = .ok (.iconst 0, 1) := by decide +kernel
theorem dX4_usesOf_31 : decode cX4_usesOf 31 = .ok (.iadd, 1) := by decide +kernel
theorem dX4_usesOf_32 : decode cX4_usesOf 32 = .ok (.istore_n 2, 1) := by decide +kernel
theorem dX4_usesOf_33 : decode cX4_usesOf 33 = .ok (.iinc 3 1, 3) := by decide +kernel
theorem dX4_usesOf_36 : decode cX4_usesOf 36 = .ok (.goto (-32), 3) := by decide +kernel
theorem dX4_usesOf_39 : decode cX4_usesOf 39 = .ok (.iload_n 2, 1) := by decide +kernel
theorem dX4_usesOf_40 : decode cX4_usesOf 40 = .ok (.ireturn, 1) := by decide +kernel
theorem dX4_usesWith_0 : decode cX4_usesWith 0 = .ok (.iconst 0, 1) := by decide +kernel
theorem dX4_usesWith_1 : decode cX4_usesWith 1 = .ok (.istore_n 3, 1) := by decide +kernel
theorem dX4_usesWith_2 : decode cX4_usesWith 2 = .ok (.iconst 0, 1) := by decide +kernel
theorem dX4_usesWith_3 : decode cX4_usesWith 3 = .ok (.istore 4, 2) := by decide +kernel
theorem dX4_usesWith_5 : decode cX4_usesWith 5 = .ok (.iload 4, 2) := by decide +kernel
theorem dX4_usesWith_7 : decode cX4_usesWith 7 = .ok (.aload_n 0, 1) := by decide +kernel
theorem dX4_usesWith_8 : decode cX4_usesWith 8 = .ok (.getfield 7, 3) := by decide +kernel
theorem dX4_usesWith_11 : decode cX4_usesWith 11 = .ok (.iconst 3, 1) := by decide +kernel
theorem dX4_usesWith_12 : decode cX4_usesWith 12 = .ok (.iaload, 1) := by decide +kernel
theorem dX4_usesWith_13 : decode cX4_usesWith 13 = .ok (.if_icmp .ge 34, 3) := by decide +kernel
theorem dX4_usesWith_16 : decode cX4_usesWith 16 = .ok (.iload_n 3, 1) := by decide +kernel
theorem dX4_usesWith_17 : decode cX4_usesWith 17 = .ok (.aload_n 0, 1) := by decide +kernel
theorem dX4_usesWith_18 : decode cX4_usesWith 18 = .ok (.iload 4, 2) := by decide +kernel
theorem dX4_usesWith_20 : decode cX4_usesWith 20 = .ok (.invokevirtual 118, 3) := by decide +kernel
theorem dX4_usesWith_23 : decode cX4_usesWith 23 = .ok (.invokestatic 87, 3) := by decide +kernel
theorem dX4_usesWith_26 : decode cX4_usesWith 26 = .ok (.iload_n 1, 1) := by decide +kernel
theorem dX4_usesWith_27 : decode cX4_usesWith 27 = .ok (.iload_n 2, 1) := by decide +kernel
theorem dX4_usesWith_28 : decode cX4_usesWith 28 = .ok (.invokestatic 41, 3) := by decide +kernel
theorem dX4_usesWith_31 : decode cX4_usesWith 31 = .ok (.ifCond .eq 7, 3) := by decide +kernel
theorem dX4_usesWith_34 : decode cX4_usesWith 34 = .ok (.iconst 1, 1) := by decide +kernel
theorem dX4_usesWith_35 : decode cX4_usesWith 35 = .ok (.goto 4, 3) := by decide +kernel
theorem dX4_usesWith_38 : decode cX4_usesWith 38 = .ok (.iconst 0, 1) := by decide +kernel
theorem dX4_usesWith_39 : decode cX4_usesWith 39 = .ok (.iadd, 1) := by decide +kernel
theorem dX4_usesWith_40 : decode cX4_usesWith 40 = .ok (.istore_n 3, 1) := by decide +kernel
theorem dX4_usesWith_41 : decode cX4_usesWith 41 = .ok (.iinc 4 1, 3) := by decide +kernel
theorem dX4_usesWith_44 : decode cX4_usesWith 44 = .ok (.goto (-39), 3) := by decide +kernel
theorem dX4_usesWith_47 : decode cX4_usesWith 47 = .ok (.iload_n 3, 1) := by decide +kernel
theorem dX4_usesWith_48 : decode cX4_usesWith 48 = .ok (.ireturn, 1) := by decide +kernel
theorem dX4_without_0 : decode cX4_without 0 = .ok (.aload_n 0, 1) := by decide +kernel
theorem dX4_without_1 : decode cX4_without 1 = .ok (.invokevirtual 121, 3) := by decide +kernel
theorem dX4_without_4 : decode cX4_without 4 = .ok (.aload_n 0, 1) := by decide +kernel
theorem dX4_without_5 : decode cX4_without 5 = .ok (.aload_n 0, 1) := by decide +kernel
theorem dX4_without_6 : decode cX4_without 6 = .ok (.getfield 7, 3) := by decide +kernel
theorem dX4_without_9 : decode cX4_without 9 = .ok (.aload_n 0, 1) := by decide +kernel
theorem dX4_without_10 : decode cX4_without 10 = .ok (.getfield 13, 3) := by decide +kernel
theorem dX4_without_13 : decode cX4_without 13 = .ok (.invokevirtual 223, 3) := by decide +kernel
theorem dX4_without_16 : decode cX4_without 16 = .ok (.aload_n 0, 1) := by decide +kernel
theorem dX4_without_17 : decode cX4_without 17 = .ok (.bipush 110, 2) := by decide +kernel
theorem dX4_without_19 : decode cX4_without 19 = .ok (.bipush 6, 2) := by decide +kernel
theorem dX4_without_21 : decode cX4_without 21 = .ok (.iload_n 1, 1) := by decide +kernel
theorem dX4_without_22 : decode cX4_without 22 = .ok (.iconst 2, 1) := by decide +kernel
theorem dX4_without_23 : decode cX4_without 23 = .ok (.invokevirtual 127, 3) := by decide +kernel
theorem dX4_without_26 : decode cX4_without 26 = .ok (.aload_n 0, 1) := by decide +kernel
theorem dX4_without_27 : decode cX4_without 27 = .ok (.invokevirtual 131, 3) := by decide +kernel
theorem dX4_without_30 : decode cX4_without 30 = .ok (.istore_n 2, 1) := by decide +kernel
theorem dX4_without_31 : decode cX4_without 31 = .ok (.aload_n 0, 1) := by decide +kernel
theorem dX4_without_32 : decode cX4_without 32 = .ok (.aload_n 0, 1) := by decide +kernel
theorem dX4_without_33 : decode cX4_without 33 = .ok (.getfield 13, 3) := by decide +kernel
theorem dX4_without_36 : decode cX4_without 36 = .ok (.aload_n 0, 1) := by decide +kernel
theorem dX4_without_37 : decode cX4_without 37 = .ok (.getfield 7, 3) := by decide +kernel
theorem dX4_without_40 : decode cX4_without 40 = .ok (.invokevirtual 223, 3) := by decide +kernel
theorem dX4_without_43 : decode cX4_without 43 = .ok (.iload_n 2, 1) := by decide +kernel
theorem dX4_without_44 : decode cX4_without 44 = .ok (.ireturn, 1) := by decide +kernel
theorem dX4_pairsOf_0 : decode cX4_pairsOf 0 = .ok (.aload_n 0, 1) := by decide +kernel
theorem dX4_pairsOf_1 : decode cX4_pairsOf 1 = .ok (.invokevirtual 73, 3) := by decide +kernel
theorem dX4_pairsOf_4 : decode cX4_pairsOf 4 = .ok (.iconst 0, 1) := by decide +kernel
theorem dX4_pairsOf_5 : decode cX4_pairsOf 5 = .ok (.istore_n 2, 1) := by decide +kernel
theorem dX4_pairsOf_6 : decode cX4_pairsOf 6 = .ok (.iconst 0, 1) := by decide +kernel
theorem dX4_pairsOf_7 : decode cX4_pairsOf 7 = .ok (.istore_n 3, 1) := by decide +kernel
theorem dX4_pairsOf_8 : decode cX4_pairsOf 8 = .ok (.iload_n 3, 1) := by decide +kernel
theorem dX4_pairsOf_9 : decode cX4_pairsOf 9 = .ok (.bipush 26, 2) := by decide +kernel
theorem dX4_pairsOf_11 : decode cX4_pairsOf 11 = .ok (.if_icmp .ge 21, 3) := by decide +kernel
theorem dX4_pairsOf_14 : decode cX4_pairsOf 14 = .ok (.iload_n 2, 1) := by decide +kernel
theorem dX4_pairsOf_15 : decode cX4_pairsOf 15 = .ok (.aload_n 0, 1) := by decide +kernel
theorem dX4_pairsOf_16 : decode cX4_pairsOf 16 = .ok (.iload_n 1, 1) := by decide +kernel
theorem dX4_pairsOf_17 : decode cX4_pairsOf 17 = .ok (.iload_n 3, 1) := by decide +kernel
theorem dX4_pairsOf_18 : decode cX4_pairsOf 18 = .ok (.invokevirtual 66, 3) := by decide +kernel
theorem dX4_pairsOf_21 : decode cX4_pairsOf 21 = .ok (.invokestatic 87, 3) := by decide +kernel
theorem dX4_pairsOf_24 : decode cX4_pairsOf 24 = .ok (.iadd, 1) := by decide +kernel
theorem dX4_pairsOf_25 : decode cX4_pairsOf 25 = .ok (.istore_n 2, 1) := by decide +kernel
theorem dX4_pairsOf_26 : decode cX4_pairsOf 26 = .ok (.iinc 3 1, 3) := by decide +kernel
theorem dX4_pairsOf_29 : decode cX4_pairsOf 29 = .ok (.goto (-21), 3) := by decide +kernel
theorem dX4_pairsOf_32 : decode cX4_pairsOf 32 = .ok (.iload_n 2, 1) := by decide +kernel
theorem dX4_pairsOf_33 : decode cX4_pairsOf 33 = .ok (.ireturn, 1) := by decide +kernel
theorem dX4_depth_0 : decode cX4_depth 0 = .ok (.iconst 0, 1) := by decide +kernel
theorem dX4_depth_1 : decode cX4_depth 1 = .ok (.istore_n 2, 1) := by decide +kernel
theorem dX4_depth_2 : decode cX4_depth 2 = .ok (.iload_n 1, 1) := by decide +kernel
theorem dX4_depth_3 : decode cX4_depth 3 = .ok (.istore_n 3, 1) := by decide +kernel
theorem dX4_depth_4 : decode cX4_depth 4 = .ok (.iload_n 3, 1) := by decide +kernel
theorem dX4_depth_5 : decode cX4_depth 5 = .ok (.ifCond .le 18, 3) := by decide +kernel
theorem dX4_depth_8 : decode cX4_depth 8 = .ok (.iinc 2 1, 3) := by decide +kernel
theorem dX4_depth_11 : decode cX4_depth 11 = .ok (.aload_n 0, 1) := by decide +kernel
theorem dX4_depth_12 : decode cX4_depth 12 = .ok (.getfield 7, 3) := by decide +kernel
theorem dX4_depth_15 : decode cX4_depth 15 = .ok (.iconst 4, 1) := by decide +kernel
theorem dX4_depth_16 : decode cX4_depth 16 = .ok (.iload_n 3, 1) := by decide +kernel
theorem dX4_depth_17 : decode cX4_depth 17 = .ok (.iadd, 1) := by decide +kernel
theorem dX4_depth_18 : decode cX4_depth 18 = .ok (.iaload, 1) := by decide +kernel
theorem dX4_depth_19 : decode cX4_depth 19 = .ok (.istore_n 3, 1) := by decide +kernel
theorem dX4_depth_20 : decode cX4_depth 20 = .ok (.goto (-16), 3) := by decide +kernel
theorem dX4_depth_23 : decode cX4_depth 23 = .ok (.iload_n 2, 1) := by decide +kernel
theorem dX4_depth_24 : decode cX4_depth 24 = .ok (.ireturn, 1) := by decide +kernel
theorem dX4_unused_0 : decode cX4_unused 0 = .ok (.iconst 0, 1) := by decide +kernel
theorem dX4_unused_1 : decode cX4_unused 1 = .ok (.istore_n 1, 1) := by decide +kernel
theorem dX4_unused_2 : decode cX4_unused 2 = .ok (.iconst 0, 1) := by decide +kernel
theorem dX4_unused_3 : decode cX4_unused 3 = .ok (.istore_n 2, 1) := by decide +kernel
theorem dX4_unused_4 : decode cX4_unused 4 = .ok (.iload_n 2, 1) := by decide +kernel
theorem dX4_unused_5 : decode cX4_unused 5 = .ok (.aload_n 0, 1) := by decide +kernel
theorem dX4_unused_6 : decode cX4_unused 6 = .ok (.getfield 7, 3) := by decide +kernel
theorem dX4_unused_9 : decode cX4_unused 9 = .ok (.iconst 1, 1) := by decide +kernel
theorem dX4_unused_10 : decode cX4_unused 10 = .ok (.iaload, 1) := by decide +kernel
theorem dX4_unused_11 : decode cX4_unused 11 = .ok (.if_icmp .ge 25, 3) := by decide +kernel
theorem dX4_unused_14 : decode cX4_unused 14 = .ok (.iload_n 1, 1) := by decide +kernel
theorem dX4_unused_15 : decode cX4_unused 15 = .ok (.aload_n 0, 1) := by decide +kernel
theorem dX4_unused_16 : decode cX4_unused 16 = .ok (.iload_n 2, 1) := by decide +kernel
theorem dX4_unused_17 : decode cX4_unused 17 = .ok (.invokevirtual 256, 3) := by decide +kernel
theorem dX4_unused_20 : decode cX4_unused 20 = .ok (.ifCond .ne 7, 3) := by decide +kernel
theorem dX4_unused_23 : decode cX4_unused 23 = .ok (.iconst 1, 1) := by decide +kernel
theorem dX4_unused_24 : decode cX4_unused 24 = .ok (.goto 4, 3) := by decide +kernel
theorem dX4_unused_27 : decode cX4_unused 27 = .ok (.iconst 0, 1) := by decide +kernel
theorem dX4_unused_28 : decode cX4_unused 28 = .ok (.iadd, 1) := by decide +kernel
theorem dX4_unused_29 : decode cX4_unused 29 = .ok (.istore_n 1, 1) := by decide +kernel
theorem dX4_unused_30 : decode cX4_unused 30 = .ok (.iinc 2 1, 3) := by decide +kernel
theorem dX4_unused_33 : decode cX4_unused 33 = .ok (.goto (-29), 3) := by decide +kernel
theorem dX4_unused_36 : decode cX4_unused 36 = .ok (.iload_n 1, 1) := by decide +kernel
theorem dX4_unused_37 : decode cX4_unused 37 = .ok (.ireturn, 1) := by decide +kernel
theorem dX4_needless_0 : decode cX4_needless 0 = .ok (.iconst 0, 1) := by decide +kernel
theorem dX4_needless_1 : decode cX4_needless 1 = .ok (.istore_n 2, 1) := by decide +kernel
theorem dX4_needless_2 : decode cX4_needless 2 = .ok (.iconst 0, 1) := by decide +kernel
theorem dX4_needless_3 : decode cX4_needless 3 = .ok (.istore_n 3, 1) := by decide +kernel
theorem dX4_needless_4 : decode cX4_needless 4 = .ok (.iload_n 3, 1) := by decide +kernel
theorem dX4_needless_5 : decode cX4_needless 5 = .ok (.aload_n 0, 1) := by decide +kernel
theorem dX4_needless_6 : decode cX4_needless 6 = .ok (.getfield 7, 3) := by decide +kernel
theorem dX4_needless_9 : decode cX4_needless 9 = .ok (.iconst 2, 1) := by decide +kernel
theorem dX4_needless_10 : decode cX4_needless 10 = .ok (.iaload, 1) := by decide +kernel
theorem dX4_needless_11 : decode cX4_needless 11 = .ok (.if_icmp .ge 48, 3) := by decide +kernel
theorem dX4_needless_14 : decode cX4_needless 14 = .ok (.iload_n 2, 1) := by decide +kernel
theorem dX4_needless_15 : decode cX4_needless 15 = .ok (.iload_n 1, 1) := by decide +kernel
theorem dX4_needless_16 : decode cX4_needless 16 = .ok (.ifCond .eq 22, 3) := by decide +kernel
theorem dX4_needless_19 : decode cX4_needless 19 = .ok (.aload_n 0, 1) := by decide +kernel
theorem dX4_needless_20 : decode cX4_needless 20 = .ok (.iload_n 3, 1) := by decide +kernel
theorem dX4_needless_21 : decode cX4_needless 21 = .ok (.invokevirtual 56, 3) := by decide +kernel
theorem dX4_needless_24 : decode cX4_needless 24 = .ok (.ifCond .eq 26, 3) := by decide +kernel
theorem dX4_needless_27 : decode cX4_needless 27 = .ok (.aload_n 0, 1) := by decide +kernel
theorem dX4_needless_28 : decode cX4_needless 28 = .ok (.iload_n 3, 1) := by decide +kernel
theorem dX4_needless_29 : decode cX4_needless 29 = .ok (.invokevirtual 259, 3) := by decide +kernel
theorem dX4_needless_32 : decode cX4_needless 32 = .ok (.ifCond .ne 18, 3) := by decide +kernel
theorem dX4_needless_35 : decode cX4_needless 35 = .ok (.goto 11, 3) := by decide +kernel
theorem dX4_needless_38 : decode cX4_needless 38 = .ok (.aload_n 0, 1) := by decide +kernel
theorem dX4_needless_39 : decode cX4_needless 39 = .ok (.iload_n 3, 1) := by decide +kernel
theorem dX4_needless_40 : decode cX4_needless 40 = .ok (.invokevirtual 262, 3) := by decide +kernel
theorem dX4_needless_43 : decode cX4_needless 43 = .ok (.ifCond .ne 7, 3) := by decide +kernel
theorem dX4_needless_46 : decode cX4_needless 46 = .ok (.iconst 1, 1) := by decide +kernel
theorem dX4_needless_47 : decode cX4_needless 47 = .ok (.goto 4, 3) := by decide +kernel
theorem dX4_needless_50 : decode cX4_needless 50 = .ok (.iconst 0, 1) := by decide +kernel
theorem dX4_needless_51 : decode cX4_needless 51 = .ok (.iadd, 1) := by decide +kernel
theorem dX4_needless_52 : decode cX4_needless 52 = .ok (.istore_n 2, 1) := by decide +kernel
theorem dX4_needless_53 : decode cX4_needless 53 = .ok (.iinc 3 1, 3) := by decide +kernel
theorem dX4_needless_56 : decode cX4_needless 56 = .ok (.goto (-52), 3) := by decide +kernel
theorem dX4_needless_59 : decode cX4_needless 59 = .ok (.iload_n 2, 1) := by decide +kernel
theorem dX4_needless_60 : decode cX4_needless 60 = .ok (.ireturn, 1) := by decide +kernel
theorem dX4_deepest_0 : decode cX4_deepest 0 = .ok (.iconst 0, 1) := by decide +kernel
theorem dX4_deepest_1 : decode cX4_deepest 1 = .ok (.istore_n 1, 1) := by decide +kernel
theorem dX4_deepest_2 : decode cX4_deepest 2 = .ok (.iconst 0, 1) := by decide +kernel
theorem dX4_deepest_3 : decode cX4_deepest 3 = .ok (.istore_n 2, 1) := by decide +kernel
theorem dX4_deepest_4 : decode cX4_deepest 4 = .ok (.iload_n 2, 1) := by decide +kernel
theorem dX4_deepest_5 : decode cX4_deepest 5 = .ok (.aload_n 0, 1) := by decide +kernel
theorem dX4_deepest_6 : decode cX4_deepest 6 = .ok (.getfield 7, 3) := by decide +kernel
theorem dX4_deepest_9 : decode cX4_deepest 9 = .ok (.iconst 0, 1) := by decide +kernel
theorem dX4_deepest_10 : decode cX4_deepest 10 = .ok (.iaload, 1) := by decide +kernel
theorem dX4_deepest_11 : decode cX4_deepest 11 = .ok (.if_icmp .ge 28, 3) := by decide +kernel
theorem dX4_deepest_14 : decode cX4_deepest 14 = .ok (.aload_n 0, 1) := by decide +kernel
theorem dX4_deepest_15 : decode cX4_deepest 15 = .ok (.iload_n 2, 1) := by decide +kernel
theorem dX4_deepest_16 : decode cX4_deepest 16 = .ok (.invokevirtual 265, 3) := by decide +kernel
theorem dX4_deepest_19 : decode cX4_deepest 19 = .ok (.iload_n 1, 1) := by decide +kernel
theorem dX4_deepest_20 : decode cX4_deepest 20 = .ok (.if_icmp .le 11, 3) := by decide +kernel
theorem dX4_deepest_23 : decode cX4_deepest 23 = .ok (.aload_n 0, 1) := by decide +kernel
theorem dX4_deepest_24 : decode cX4_deepest 24 = .ok (.iload_n 2, 1) := by decide +kernel
theorem dX4_deepest_25 : decode cX4_deepest 25 = .ok (.invokevirtual 265, 3) := by decide +kernel
theorem dX4_deepest_28 : decode cX4_deepest 28 = .ok (.goto 4, 3) := by decide +kernel
theorem dX4_deepest_31 : decode cX4_deepest 31 = .ok (.iload_n 1, 1) := by decide +kernel
theorem dX4_deepest_32 : decode cX4_deepest 32 = .ok (.istore_n 1, 1) := by decide +kernel
theorem dX4_deepest_33 : decode cX4_deepest 33 = .ok (.iinc 2 1, 3) := by decide +kernel
theorem dX4_deepest_36 : decode cX4_deepest 36 = .ok (.goto (-32), 3) := by decide +kernel
theorem dX4_deepest_39 : decode cX4_deepest 39 = .ok (.iload_n 1, 1) := by decide +kernel
theorem dX4_deepest_40 : decode cX4_deepest 40 = .ok (.ireturn, 1) := by decide +kernel
theorem dX4_allPairs_0 : decode cX4_allPairs 0 = .ok (.aload_n 0, 1) := by decide +kernel
theorem dX4_allPairs_1 : decode cX4_allPairs 1 = .ok (.invokevirtual 73, 3) := by decide +kernel
theorem dX4_allPairs_4 : decode cX4_allPairs 4 = .ok (.iconst 0, 1) := by decide +kernel
theorem dX4_allPairs_5 : decode cX4_allPairs 5 = .ok (.istore_n 1, 1) := by decide +kernel
theorem dX4_allPairs_6 : decode cX4_allPairs 6 = .ok (.iconst 0, 1) := by decide +kernel
theorem dX4_allPairs_7 : decode cX4_allPairs 7 = .ok (.istore_n 2, 1) := by decide +kernel
theorem dX4_allPairs_8 : decode cX4_allPairs 8 = .ok (.iload_n 2, 1) := by decide +kernel
theorem dX4_allPairs_9 : decode cX4_allPairs 9 = .ok (.sipush 416, 3) := by decide +kernel
theorem dX4_allPairs_12 : decode cX4_allPairs 12 = .ok (.if_icmp .ge 21, 3) := by decide +kernel
theorem dX4_allPairs_15 : decode cX4_allPairs 15 = .ok (.iload_n 1, 1) := by decide +kernel
theorem dX4_allPairs_16 : decode cX4_allPairs 16 = .ok (.aload_n 0, 1) := by decide +kernel
theorem dX4_allPairs_17 : decode cX4_allPairs 17 = .ok (.getfield 16, 3) := by decide +kernel
theorem dX4_allPairs_20 : decode cX4_allPairs 20 = .ok (.iload_n 2, 1) := by decide +kernel
theorem dX4_allPairs_21 : decode cX4_allPairs 21 = .ok (.iaload, 1) := by decide +kernel
theorem dX4_allPairs_22 : decode cX4_allPairs 22 = .ok (.invokestatic 87, 3) := by decide +kernel
theorem dX4_allPairs_25 : decode cX4_allPairs 25 = .ok (.iadd, 1) := by decide +kernel
theorem dX4_allPairs_26 : decode cX4_allPairs 26 = .ok (.istore_n 1, 1) := by decide +kernel
theorem dX4_allPairs_27 : decode cX4_allPairs 27 = .ok (.iinc 2 1, 3) := by decide +kernel
theorem dX4_allPairs_30 : decode cX4_allPairs 30 = .ok (.goto (-22), 3) := by decide +kernel
theorem dX4_allPairs_33 : decode cX4_allPairs 33 = .ok (.iload_n 1, 1) := by decide +kernel
theorem dX4_allPairs_34 : decode cX4_allPairs 34 = .ok (.ireturn, 1) := by decide +kernel
theorem dX4_counted_0 : decode cX4_counted 0 = .ok (.iload_n 1, 1) := by decide +kernel
theorem dX4_counted_1 : decode cX4_counted 1 = .ok (.tableswitch 85 4 10 #[43, 50, 58, 63, 69, 75, 80], 43) := by decide +kernel
theorem dX4_counted_44 : decode cX4_counted 44 = .ok (.aload_n 0, 1) := by decide +kernel
theorem dX4_counted_45 : decode cX4_counted 45 = .ok (.iconst 1, 1) := by decide +kernel
theorem dX4_counted_46 : decode cX4_counted 46 = .ok (.iconst 1, 1) := by decide +kernel
theorem dX4_counted_47 : decode cX4_counted 47 = .ok (.invokevirtual 268, 3) := by decide +kernel
theorem dX4_counted_50 : decode cX4_counted 50 = .ok (.ireturn, 1) := by decide +kernel
theorem dX4_counted_51 : decode cX4_counted 51 = .ok (.aload_n 0, 1) := by decide +kernel
theorem dX4_counted_52 : decode cX4_counted 52 = .ok (.iconst 2, 1) := by decide +kernel
theorem dX4_counted_53 : decode cX4_counted 53 = .ok (.bipush 30, 2) := by decide +kernel
theorem dX4_counted_55 : decode cX4_counted 55 = .ok (.invokevirtual 268, 3) := by decide +kernel
theorem dX4_counted_58 : decode cX4_counted 58 = .ok (.ireturn, 1) := by decide +kernel
theorem dX4_counted_59 : decode cX4_counted 59 = .ok (.aload_n 0, 1) := by decide +kernel
theorem dX4_counted_60 : decode cX4_counted 60 = .ok (.invokevirtual 271, 3) := by decide +kernel
theorem dX4_counted_63 : decode cX4_counted 63 = .ok (.ireturn, 1) := by decide +kernel
theorem dX4_counted_64 : decode cX4_counted 64 = .ok (.aload_n 0, 1) := by decide +kernel
theorem dX4_counted_65 : decode cX4_counted 65 = .ok (.iconst 0, 1) := by decide +kernel
theorem dX4_counted_66 : decode cX4_counted 66 = .ok (.invokevirtual 274, 3) := by decide +kernel
theorem dX4_counted_69 : decode cX4_counted 69 = .ok (.ireturn, 1) := by decide +kernel
theorem dX4_counted_70 : decode cX4_counted 70 = .ok (.aload_n 0, 1) := by decide +kernel
theorem dX4_counted_71 : decode cX4_counted 71 = .ok (.iconst 1, 1) := by decide +kernel
theorem dX4_counted_72 : decode cX4_counted 72 = .ok (.invokevirtual 274, 3) := by decide +kernel
theorem dX4_counted_75 : decode cX4_counted 75 = .ok (.ireturn, 1) := by decide +kernel
theorem dX4_counted_76 : decode cX4_counted 76 = .ok (.aload_n 0, 1) := by decide +kernel
theorem dX4_counted_77 : decode cX4_counted 77 = .ok (.invokevirtual 277, 3) := by decide +kernel
theorem dX4_counted_80 : decode cX4_counted 80 = .ok (.ireturn, 1) := by decide +kernel
theorem dX4_counted_81 : decode cX4_counted 81 = .ok (.aload_n 0, 1) := by decide +kernel
theorem dX4_counted_82 : decode cX4_counted 82 = .ok (.invokevirtual 280, 3) := by decide +kernel
theorem dX4_counted_85 : decode cX4_counted 85 = .ok (.ireturn, 1) := by decide +kernel
theorem dX4_counted_86 : decode cX4_counted 86 = .ok (.aload_n 0, 1) := by decide +kernel
theorem dX4_counted_87 : decode cX4_counted 87 = .ok (.getfield 7, 3) := by decide +kernel
theorem dX4_counted_90 : decode cX4_counted 90 = .ok (.iload_n 1, 1) := by decide +kernel
theorem dX4_counted_91 : decode cX4_counted 91 = .ok (.iaload, 1) := by decide +kernel
theorem dX4_counted_92 : decode cX4_counted 92 = .ok (.ireturn, 1) := by decide +kernel
theorem dX4_count_0 : decode cX4_count 0 = .ok (.aload_n 0, 1) := by decide +kernel
theorem dX4_count_1 : decode cX4_count 1 = .ok (.iload_n 1, 1) := by decide +kernel
theorem dX4_count_2 : decode cX4_count 2 = .ok (.iconst 0, 1) := by decide +kernel
theorem dX4_count_3 : decode cX4_count 3 = .ok (.bipush 10, 2) := by decide +kernel
theorem dX4_count_5 : decode cX4_count 5 = .ok (.invokestatic 41, 3) := by decide +kernel
theorem dX4_count_8 : decode cX4_count 8 = .ok (.ifCond .eq 7, 3) := by decide +kernel
theorem dX4_count_11 : decode cX4_count 11 = .ok (.iconst 0, 1) := by decide +kernel
theorem dX4_count_12 : decode cX4_count 12 = .ok (.goto 4, 3) := by decide +kernel
theorem dX4_count_15 : decode cX4_count 15 = .ok (.iconst 1, 1) := by decide +kernel
theorem dX4_count_16 : decode cX4_count 16 = .ok (.putfield 37, 3) := by decide +kernel
theorem dX4_count_19 : decode cX4_count 19 = .ok (.aload_n 0, 1) := by decide +kernel
theorem dX4_count_20 : decode cX4_count 20 = .ok (.getfield 37, 3) := by decide +kernel
theorem dX4_count_23 : decode cX4_count 23 = .ok (.ifCond .le 7, 3) := by decide +kernel
theorem dX4_count_26 : decode cX4_count 26 = .ok (.iconst 0, 1) := by decide +kernel
theorem dX4_count_27 : decode cX4_count 27 = .ok (.goto 8, 3) := by decide +kernel
theorem dX4_count_30 : decode cX4_count 30 = .ok (.aload_n 0, 1) := by decide +kernel
theorem dX4_count_31 : decode cX4_count 31 = .ok (.iload_n 1, 1) := by decide +kernel
theorem dX4_count_32 : decode cX4_count 32 = .ok (.invokevirtual 283, 3) := by decide +kernel
theorem dX4_count_35 : decode cX4_count 35 = .ok (.ireturn, 1) := by decide +kernel
theorem dX4_offering_0 : decode cX4_offering 0 = .ok (.aload_n 0, 1) := by decide +kernel
theorem dX4_offering_1 : decode cX4_offering 1 = .ok (.invokevirtual 73, 3) := by decide +kernel
theorem dX4_offering_4 : decode cX4_offering 4 = .ok (.iconst 0, 1) := by decide +kernel
theorem dX4_offering_5 : decode cX4_offering 5 = .ok (.istore_n 2, 1) := by decide +kernel
theorem dX4_offering_6 : decode cX4_offering 6 = .ok (.iconst 0, 1) := by decide +kernel
theorem dX4_offering_7 : decode cX4_offering 7 = .ok (.istore_n 3, 1) := by decide +kernel
theorem dX4_offering_8 : decode cX4_offering 8 = .ok (.iload_n 3, 1) := by decide +kernel
theorem dX4_offering_9 : decode cX4_offering 9 = .ok (.aload_n 0, 1) := by decide +kernel
theorem dX4_offering_10 : decode cX4_offering 10 = .ok (.getfield 7, 3) := by decide +kernel
theorem dX4_offering_13 : decode cX4_offering 13 = .ok (.iconst 0, 1) := by decide +kernel
theorem dX4_offering_14 : decode cX4_offering 14 = .ok (.iaload, 1) := by decide +kernel
theorem dX4_offering_15 : decode cX4_offering 15 = .ok (.if_icmp .ge 49, 3) := by decide +kernel
theorem dX4_offering_18 : decode cX4_offering 18 = .ok (.iconst 0, 1) := by decide +kernel
theorem dX4_offering_19 : decode cX4_offering 19 = .ok (.istore 4, 2) := by decide +kernel
theorem dX4_offering_21 : decode cX4_offering 21 = .ok (.iconst 0, 1) := by decide +kernel
theorem dX4_offering_22 : decode cX4_offering 22 = .ok (.istore 5, 2) := by decide +kernel
theorem dX4_offering_24 : decode cX4_offering 24 = .ok (.iload 5, 2) := by decide +kernel
theorem dX4_offering_26 : decode cX4_offering 26 = .ok (.bipush 26, 2) := by decide +kernel
theorem dX4_offering_28 : decode cX4_offering 28 = .ok (.if_icmp .ge 21, 3) := by decide +kernel
theorem dX4_offering_31 : decode cX4_offering 31 = .ok (.iload 4, 2) := by decide +kernel
theorem dX4_offering_33 : decode cX4_offering 33 = .ok (.aload_n 0, 1) := by decide +kernel
theorem dX4_offering_34 : decode cX4_offering 34 = .ok (.iload_n 3, 1) := by decide +kernel
theorem dX4_offering_35 : decode cX4_offering 35 = .ok (.iload 5, 2) := by decide +kernel
theorem dX4_offering_37 : decode cX4_offering 37 = .ok (.invokevirtual 60, 3) := by decide +kernel
theorem dX4_offering_40 : decode cX4_offering 40 = .ok (.ior, 1) := by decide +kernel
theorem dX4_offering_41 : decode cX4_offering 41 = .ok (.istore 4, 2) := by decide +kernel
theorem dX4_offering_43 : decode cX4_offering 43 = .ok (.iinc 5 1, 3) := by decide +kernel
theorem dX4_offering_46 : decode cX4_offering 46 = .ok (.goto (-22), 3) := by decide +kernel
theorem dX4_offering_49 : decode cX4_offering 49 = .ok (.iload_n 2, 1) := by decide +kernel
theorem dX4_offering_50 : decode cX4_offering 50 = .ok (.iload 4, 2) := by decide +kernel
theorem dX4_offering_52 : decode cX4_offering 52 = .ok (.iload_n 1, 1) := by decide +kernel
theorem dX4_offering_53 : decode cX4_offering 53 = .ok (.ishr, 1) := by decide +kernel
theorem dX4_offering_54 : decode cX4_offering 54 = .ok (.iconst 1, 1) := by decide +kernel
theorem dX4_offering_55 : decode cX4_offering 55 = .ok (.iand, 1) := by decide +kernel
theorem dX4_offering_56 : decode cX4_offering 56 = .ok (.iadd, 1) := by decide +kernel
theorem dX4_offering_57 : decode cX4_offering 57 = .ok (.istore_n 2, 1) := by decide +kernel
theorem dX4_offering_58 : decode cX4_offering 58 = .ok (.iinc 3 1, 3) := by decide +kernel
theorem dX4_offering_61 : decode cX4_offering 61 = .ok (.goto (-53), 3) := by decide +kernel
theorem dX4_offering_64 : decode cX4_offering 64 = .ok (.iload_n 2, 1) := by decide +kernel
theorem dX4_offering_65 : decode cX4_offering 65 = .ok (.ireturn, 1) := by decide +kernel
theorem dX4_reaching_0 : decode cX4_reaching 0 = .ok (.iconst 0, 1) := by decide +kernel
theorem dX4_reaching_1 : decode cX4_reaching 1 = .ok (.istore_n 2, 1) := by decide +kernel
theorem dX4_reaching_2 : decode cX4_reaching 2 = .ok (.iconst 0, 1) := by decide +kernel
theorem dX4_reaching_3 : decode cX4_reaching 3 = .ok (.istore_n 3, 1) := by decide +kernel
theorem dX4_reaching_4 : decode cX4_reaching 4 = .ok (.iload_n 3, 1) := by decide +kernel
theorem dX4_reaching_5 : decode cX4_reaching 5 = .ok (.aload_n 0, 1) := by decide +kernel
theorem dX4_reaching_6 : decode cX4_reaching 6 = .ok (.getfield 7, 3) := by decide +kernel
theorem dX4_reaching_9 : decode cX4_reaching 9 = .ok (.iconst 0, 1) := by decide +kernel
theorem dX4_reaching_10 : decode cX4_reaching 10 = .ok (.iaload, 1) := by decide +kernel
theorem dX4_reaching_11 : decode cX4_reaching 11 = .ok (.if_icmp .ge 34, 3) := by decide +kernel
theorem dX4_reaching_14 : decode cX4_reaching 14 = .ok (.iload_n 2, 1) := by decide +kernel
theorem dX4_reaching_15 : decode cX4_reaching 15 = .ok (.aload_n 0, 1) := by decide +kernel
theorem dX4_reaching_16 : decode cX4_reaching 16 = .ok (.iload_n 3, 1) := by decide +kernel
theorem dX4_reaching_17 : decode cX4_reaching 17 = .ok (.aload_n 0, 1) := by decide +kernel
theorem dX4_reaching_18 : decode cX4_reaching 18 = .ok (.iload_n 1, 1) := by decide +kernel
theorem dX4_reaching_19 : decode cX4_reaching 19 = .ok (.iconst 1, 1) := by decide +kernel
theorem dX4_reaching_20 : decode cX4_reaching 20 = .ok (.invokevirtual 53, 3) := by decide +kernel
theorem dX4_reaching_23 : decode cX4_reaching 23 = .ok (.invokevirtual 100, 3) := by decide +kernel
theorem dX4_reaching_26 : decode cX4_reaching 26 = .ok (.iconst 1, 1) := by decide +kernel
theorem dX4_reaching_27 : decode cX4_reaching 27 = .ok (.iload_n 1, 1) := by decide +kernel
theorem dX4_reaching_28 : decode cX4_reaching 28 = .ok (.ishl, 1) := by decide +kernel
theorem dX4_reaching_29 : decode cX4_reaching 29 = .ok (.if_icmp .ne 7, 3) := by decide +kernel
theorem dX4_reaching_32 : decode cX4_reaching 32 = .ok (.iconst 1, 1) := by decide +kernel
theorem dX4_reaching_33 : decode cX4_reaching 33 = .ok (.goto 4, 3) := by decide +kernel
theorem dX4_reaching_36 : decode cX4_reaching 36 = .ok (.iconst 0, 1) := by decide +kernel
theorem dX4_reaching_37 : decode cX4_reaching 37 = .ok (.iadd, 1) := by decide +kernel
theorem dX4_reaching_38 : decode cX4_reaching 38 = .ok (.istore_n 2, 1) := by decide +kernel
theorem dX4_reaching_39 : decode cX4_reaching 39 = .ok (.iinc 3 1, 3) := by decide +kernel
theorem dX4_reaching_42 : decode cX4_reaching 42 = .ok (.goto (-38), 3) := by decide +kernel
theorem dX4_reaching_45 : decode cX4_reaching 45 = .ok (.iload_n 2, 1) := by decide +kernel
theorem dX4_reaching_46 : decode cX4_reaching 46 = .ok (.ireturn, 1) := by decide +kernel
theorem dX4_declarationNow_0 : decode cX4_declarationNow 0 = .ok (.iload_n 2, 1) := by decide +kernel
theorem dX4_declarationNow_1 : decode cX4_declarationNow 1 = .ok (.iconst 3, 1) := by decide +kernel
theorem dX4_declarationNow_2 : decode cX4_declarationNow 2 = .ok (.if_icmp .ge 12, 3) := by decide +kernel
theorem dX4_declarationNow_5 : decode cX4_declarationNow 5 = .ok (.aload_n 0, 1) := by decide +kernel
theorem dX4_declarationNow_6 : decode cX4_declarationNow 6 = .ok (.iload_n 1, 1) := by decide +kernel
theorem dX4_declarationNow_7 : decode cX4_declarationNow 7 = .ok (.iload_n 2, 1) := by decide +kernel
theorem dX4_declarationNow_8 : decode cX4_declarationNow 8 = .ok (.invokevirtual 53, 3) := by decide +kernel
theorem dX4_declarationNow_11 : decode cX4_declarationNow 11 = .ok (.goto 34, 3) := by decide +kernel
theorem dX4_declarationNow_14 : decode cX4_declarationNow 14 = .ok (.iload_n 2, 1) := by decide +kernel
theorem dX4_declarationNow_15 : decode cX4_declarationNow 15 = .ok (.iconst 3, 1) := by decide +kernel
theorem dX4_declarationNow_16 : decode cX4_declarationNow 16 = .ok (.if_icmp .ne 11, 3) := by decide +kernel
theorem dX4_declarationNow_19 : decode cX4_declarationNow 19 = .ok (.aload_n 0, 1) := by decide +kernel
theorem dX4_declarationNow_20 : decode cX4_declarationNow 20 = .ok (.iload_n 1, 1) := by decide +kernel
theorem dX4_declarationNow_21 : decode cX4_declarationNow 21 = .ok (.invokevirtual 256, 3) := by decide +kernel
theorem dX4_declarationNow_24 : decode cX4_declarationNow 24 = .ok (.goto 21, 3) := by decide +kernel
theorem dX4_declarationNow_27 : decode cX4_declarationNow 27 = .ok (.iload_n 2, 1) := by decide +kernel
theorem dX4_declarationNow_28 : decode cX4_declarationNow 28 = .ok (.iconst 4, 1) := by decide +kernel
theorem dX4_declarationNow_29 : decode cX4_declarationNow 29 = .ok (.if_icmp .ne 11, 3) := by decide +kernel
theorem dX4_declarationNow_32 : decode cX4_declarationNow 32 = .ok (.aload_n 0, 1) := by decide +kernel
theorem dX4_declarationNow_33 : decode cX4_declarationNow 33 = .ok (.iload_n 1, 1) := by decide +kernel
theorem dX4_declarationNow_34 : decode cX4_declarationNow 34 = .ok (.invokevirtual 286, 3) := by decide +kernel
theorem dX4_declarationNow_37 : decode cX4_declarationNow 37 = .ok (.goto 8, 3) := by decide +kernel
theorem dX4_declarationNow_40 : decode cX4_declarationNow 40 = .ok (.aload_n 0, 1) := by decide +kernel
theorem dX4_declarationNow_41 : decode cX4_declarationNow 41 = .ok (.iload_n 1, 1) := by decide +kernel
theorem dX4_declarationNow_42 : decode cX4_declarationNow 42 = .ok (.invokevirtual 289, 3) := by decide +kernel
theorem dX4_declarationNow_45 : decode cX4_declarationNow 45 = .ok (.ireturn, 1) := by decide +kernel
theorem dX4_declaration_0 : decode cX4_declaration 0 = .ok (.aload_n 0, 1) := by decide +kernel
theorem dX4_declaration_1 : decode cX4_declaration 1 = .ok (.aload_n 0, 1) := by decide +kernel
theorem dX4_declaration_2 : decode cX4_declaration 2 = .ok (.iload_n 1, 1) := by decide +kernel
theorem dX4_declaration_3 : decode cX4_declaration 3 = .ok (.invokevirtual 250, 3) := by decide +kernel
theorem dX4_declaration_6 : decode cX4_declaration 6 = .ok (.ifCond .ne 7, 3) := by decide +kernel
theorem dX4_declaration_9 : decode cX4_declaration 9 = .ok (.iconst 1, 1) := by decide +kernel
theorem dX4_declaration_10 : decode cX4_declaration 10 = .ok (.goto 17, 3) := by decide +kernel
theorem dX4_declaration_13 : decode cX4_declaration 13 = .ok (.iload_n 2, 1) := by decide +kernel
theorem dX4_declaration_14 : decode cX4_declaration 14 = .ok (.iconst 0, 1) := by decide +kernel
theorem dX4_declaration_15 : decode cX4_declaration 15 = .ok (.iconst 5, 1) := by decide +kernel
theorem dX4_declaration_16 : decode cX4_declaration 16 = .ok (.invokestatic 41, 3) := by decide +kernel
theorem dX4_declaration_19 : decode cX4_declaration 19 = .ok (.ifCond .eq 7, 3) := by decide +kernel
theorem dX4_declaration_22 : decode cX4_declaration 22 = .ok (.iconst 0, 1) := by decide +kernel
theorem dX4_declaration_23 : decode cX4_declaration 23 = .ok (.goto 4, 3) := by decide +kernel
theorem dX4_declaration_26 : decode cX4_declaration 26 = .ok (.iconst 2, 1) := by decide +kernel
theorem dX4_declaration_27 : decode cX4_declaration 27 = .ok (.putfield 37, 3) := by decide +kernel
theorem dX4_declaration_30 : decode cX4_declaration 30 = .ok (.aload_n 0, 1) := by decide +kernel
theorem dX4_declaration_31 : decode cX4_declaration 31 = .ok (.getfield 37, 3) := by decide +kernel
theorem dX4_declaration_34 : decode cX4_declaration 34 = .ok (.ifCond .le 7, 3) := by decide +kernel
theorem dX4_declaration_37 : decode cX4_declaration 37 = .ok (.iconst 0, 1) := by decide +kernel
theorem dX4_declaration_38 : decode cX4_declaration 38 = .ok (.goto 9, 3) := by decide +kernel
theorem dX4_declaration_41 : decode cX4_declaration 41 = .ok (.aload_n 0, 1) := by decide +kernel
theorem dX4_declaration_42 : decode cX4_declaration 42 = .ok (.iload_n 1, 1) := by decide +kernel
theorem dX4_declaration_43 : decode cX4_declaration 43 = .ok (.iload_n 2, 1) := by decide +kernel
theorem dX4_declaration_44 : decode cX4_declaration 44 = .ok (.invokevirtual 292, 3) := by decide +kernel
theorem dX4_declaration_47 : decode cX4_declaration 47 = .ok (.ireturn, 1) := by decide +kernel
theorem dX4_importNow_0 : decode cX4_importNow 0 = .ok (.iload_n 2, 1) := by decide +kernel
theorem dX4_importNow_1 : decode cX4_importNow 1 = .ok (.bipush 6, 2) := by decide +kernel
theorem dX4_importNow_3 : decode cX4_importNow 3 = .ok (.if_icmp .ge 12, 3) := by decide +kernel
theorem dX4_importNow_6 : decode cX4_importNow 6 = .ok (.aload_n 0, 1) := by decide +kernel
theorem dX4_importNow_7 : decode cX4_importNow 7 = .ok (.iload_n 1, 1) := by decide +kernel
theorem dX4_importNow_8 : decode cX4_importNow 8 = .ok (.iload_n 2, 1) := by decide +kernel
theorem dX4_importNow_9 : decode cX4_importNow 9 = .ok (.invokevirtual 45, 3) := by decide +kernel
theorem dX4_importNow_12 : decode cX4_importNow 12 = .ok (.goto 22, 3) := by decide +kernel
theorem dX4_importNow_15 : decode cX4_importNow 15 = .ok (.iload_n 2, 1) := by decide +kernel
theorem dX4_importNow_16 : decode cX4_importNow 16 = .ok (.bipush 6, 2) := by decide +kernel
theorem dX4_importNow_18 : decode cX4_importNow 18 = .ok (.if_icmp .ne 11, 3) := by decide +kernel
theorem dX4_importNow_21 : decode cX4_importNow 21 = .ok (.aload_n 0, 1) := by decide +kernel
theorem dX4_importNow_22 : decode cX4_importNow 22 = .ok (.iload_n 1, 1) := by decide +kernel
theorem dX4_importNow_23 : decode cX4_importNow 23 = .ok (.invokevirtual 259, 3) := by decide +kernel
theorem dX4_importNow_26 : decode cX4_importNow 26 = .ok (.goto 8, 3) := by decide +kernel
theorem dX4_importNow_29 : decode cX4_importNow 29 = .ok (.aload_n 0, 1) := by decide +kernel
theorem dX4_importNow_30 : decode cX4_importNow 30 = .ok (.iload_n 1, 1) := by decide +kernel
theorem dX4_importNow_31 : decode cX4_importNow 31 = .ok (.invokevirtual 262, 3) := by decide +kernel
theorem dX4_importNow_34 : decode cX4_importNow 34 = .ok (.ireturn, 1) := by decide +kernel
theorem dX4_imported_0 : decode cX4_imported 0 = .ok (.aload_n 0, 1) := by decide +kernel
theorem dX4_imported_1 : decode cX4_imported 1 = .ok (.iload_n 1, 1) := by decide +kernel
theorem dX4_imported_2 : decode cX4_imported 2 = .ok (.iconst 0, 1) := by decide +kernel
theorem dX4_imported_3 : decode cX4_imported 3 = .ok (.aload_n 0, 1) := by decide +kernel
theorem dX4_imported_4 : decode cX4_imported 4 = .ok (.getfield 7, 3) := by decide +kernel
theorem dX4_imported_7 : decode cX4_imported 7 = .ok (.iconst 2, 1) := by decide +kernel
theorem dX4_imported_8 : decode cX4_imported 8 = .ok (.iaload, 1) := by decide +kernel
theorem dX4_imported_9 : decode cX4_imported 9 = .ok (.iconst 1, 1) := by decide +kernel
theorem dX4_imported_10 : decode cX4_imported 10 = .ok (.isub, 1) := by decide +kernel
theorem dX4_imported_11 : decode cX4_imported 11 = .ok (.invokestatic 41, 3) := by decide +kernel
theorem dX4_imported_14 : decode cX4_imported 14 = .ok (.ifCond .ne 7, 3) := by decide +kernel
theorem dX4_imported_17 : decode cX4_imported 17 = .ok (.iconst 1, 1) := by decide +kernel
theorem dX4_imported_18 : decode cX4_imported 18 = .ok (.goto 18, 3) := by decide +kernel
theorem dX4_imported_21 : decode cX4_imported 21 = .ok (.iload_n 2, 1) := by decide +kernel
theorem dX4_imported_22 : decode cX4_imported 22 = .ok (.iconst 0, 1) := by decide +kernel
theorem dX4_imported_23 : decode cX4_imported 23 = .ok (.bipush 7, 2) := by decide +kernel
theorem dX4_imported_25 : decode cX4_imported 25 = .ok (.invokestatic 41, 3) := by decide +kernel
theorem dX4_imported_28 : decode cX4_imported 28 = .ok (.ifCond .eq 7, 3) := by decide +kernel
theorem dX4_imported_31 : decode cX4_imported 31 = .ok (.iconst 0, 1) := by decide +kernel
theorem dX4_imported_32 : decode cX4_imported 32 = .ok (.goto 4, 3) := by decide +kernel
theorem dX4_imported_35 : decode cX4_imported 35 = .ok (.iconst 2, 1) := by decide +kernel
theorem dX4_imported_36 : decode cX4_imported 36 = .ok (.putfield 37, 3) := by decide +kernel
theorem dX4_imported_39 : decode cX4_imported 39 = .ok (.aload_n 0, 1) := by decide +kernel
theorem dX4_imported_40 : decode cX4_imported 40 = .ok (.getfield 37, 3) := by decide +kernel
theorem dX4_imported_43 : decode cX4_imported 43 = .ok (.ifCond .le 7, 3) := by decide +kernel
theorem dX4_imported_46 : decode cX4_imported 46 = .ok (.iconst 0, 1) := by decide +kernel
theorem dX4_imported_47 : decode cX4_imported 47 = .ok (.goto 9, 3) := by decide +kernel
theorem dX4_imported_50 : decode cX4_imported 50 = .ok (.aload_n 0, 1) := by decide +kernel
theorem dX4_imported_51 : decode cX4_imported 51 = .ok (.iload_n 1, 1) := by decide +kernel
theorem dX4_imported_52 : decode cX4_imported 52 = .ok (.iload_n 2, 1) := by decide +kernel
theorem dX4_imported_53 : decode cX4_imported 53 = .ok (.invokevirtual 295, 3) := by decide +kernel
theorem dX4_imported_56 : decode cX4_imported 56 = .ok (.ireturn, 1) := by decide +kernel
theorem dX4_useNow_0 : decode cX4_useNow 0 = .ok (.iload_n 2, 1) := by decide +kernel
theorem dX4_useNow_1 : decode cX4_useNow 1 = .ok (.iconst 2, 1) := by decide +kernel
theorem dX4_useNow_2 : decode cX4_useNow 2 = .ok (.if_icmp .ge 18, 3) := by decide +kernel
theorem dX4_useNow_5 : decode cX4_useNow 5 = .ok (.aload_n 0, 1) := by decide +kernel
theorem dX4_useNow_6 : decode cX4_useNow 6 = .ok (.getfield 7, 3) := by decide +kernel
theorem dX4_useNow_9 : decode cX4_useNow 9 = .ok (.sipush 230, 3) := by decide +kernel
theorem dX4_useNow_12 : decode cX4_useNow 12 = .ok (.iconst 2, 1) := by decide +kernel
theorem dX4_useNow_13 : decode cX4_useNow 13 = .ok (.iload_n 1, 1) := by decide +kernel
theorem dX4_useNow_14 : decode cX4_useNow 14 = .ok (.imul, 1) := by decide +kernel
theorem dX4_useNow_15 : decode cX4_useNow 15 = .ok (.iadd, 1) := by decide +kernel
theorem dX4_useNow_16 : decode cX4_useNow 16 = .ok (.iload_n 2, 1) := by decide +kernel
theorem dX4_useNow_17 : decode cX4_useNow 17 = .ok (.iadd, 1) := by decide +kernel
theorem dX4_useNow_18 : decode cX4_useNow 18 = .ok (.iaload, 1) := by decide +kernel
theorem dX4_useNow_19 : decode cX4_useNow 19 = .ok (.ireturn, 1) := by decide +kernel
theorem dX4_useNow_20 : decode cX4_useNow 20 = .ok (.aload_n 0, 1) := by decide +kernel
theorem dX4_useNow_21 : decode cX4_useNow 21 = .ok (.iload_n 1, 1) := by decide +kernel
theorem dX4_useNow_22 : decode cX4_useNow 22 = .ok (.invokevirtual 118, 3) := by decide +kernel
theorem dX4_useNow_25 : decode cX4_useNow 25 = .ok (.istore_n 3, 1) := by decide +kernel
theorem dX4_useNow_26 : decode cX4_useNow 26 = .ok (.iload_n 2, 1) := by decide +kernel
theorem dX4_useNow_27 : decode cX4_useNow 27 = .ok (.iconst 2, 1) := by decide +kernel
theorem dX4_useNow_28 : decode cX4_useNow 28 = .ok (.if_icmp .ne 10, 3) := by decide +kernel
theorem dX4_useNow_31 : decode cX4_useNow 31 = .ok (.iload_n 3, 1) := by decide +kernel
theorem dX4_useNow_32 : decode cX4_useNow 32 = .ok (.invokestatic 227, 3) := by decide +kernel
theorem dX4_useNow_35 : decode cX4_useNow 35 = .ok (.goto 31, 3) := by decide +kernel
theorem dX4_useNow_38 : decode cX4_useNow 38 = .ok (.iload_n 3, 1) := by decide +kernel
theorem dX4_useNow_39 : decode cX4_useNow 39 = .ok (.invokestatic 87, 3) := by decide +kernel
theorem dX4_useNow_42 : decode cX4_useNow 42 = .ok (.iconst 1, 1) := by decide +kernel
theorem dX4_useNow_43 : decode cX4_useNow 43 = .ok (.if_icmp .ne 7, 3) := by decide +kernel
theorem dX4_useNow_46 : decode cX4_useNow 46 = .ok (.iconst 0, 1) := by decide +kernel
theorem dX4_useNow_47 : decode cX4_useNow 47 = .ok (.goto 19, 3) := by decide +kernel
theorem dX4_useNow_50 : decode cX4_useNow 50 = .ok (.iload_n 3, 1) := by decide +kernel
theorem dX4_useNow_51 : decode cX4_useNow 51 = .ok (.ifCond .ne 7, 3) := by decide +kernel
theorem dX4_useNow_54 : decode cX4_useNow 54 = .ok (.iconst 1, 1) := by decide +kernel
theorem dX4_useNow_55 : decode cX4_useNow 55 = .ok (.goto 11, 3) := by decide +kernel
theorem dX4_useNow_58 : decode cX4_useNow 58 = .ok (.aload_n 0, 1) := by decide +kernel
theorem dX4_useNow_59 : decode cX4_useNow 59 = .ok (.getfield 25, 3) := by decide +kernel
theorem dX4_useNow_62 : decode cX4_useNow 62 = .ok (.iconst 0, 1) := by decide +kernel
theorem dX4_useNow_63 : decode cX4_useNow 63 = .ok (.iaload, 1) := by decide +kernel
theorem dX4_useNow_64 : decode cX4_useNow 64 = .ok (.iconst 1, 1) := by decide +kernel
theorem dX4_useNow_65 : decode cX4_useNow 65 = .ok (.iadd, 1) := by decide +kernel
theorem dX4_useNow_66 : decode cX4_useNow 66 = .ok (.ireturn, 1) := by decide +kernel
theorem dX4_used_0 : decode cX4_used 0 = .ok (.aload_n 0, 1) := by decide +kernel
theorem dX4_used_1 : decode cX4_used 1 = .ok (.iload_n 1, 1) := by decide +kernel
theorem dX4_used_2 : decode cX4_used 2 = .ok (.iconst 0, 1) := by decide +kernel
theorem dX4_used_3 : decode cX4_used 3 = .ok (.aload_n 0, 1) := by decide +kernel
theorem dX4_used_4 : decode cX4_used 4 = .ok (.getfield 7, 3) := by decide +kernel
theorem dX4_used_7 : decode cX4_used 7 = .ok (.iconst 3, 1) := by decide +kernel
theorem dX4_used_8 : decode cX4_used 8 = .ok (.iaload, 1) := by decide +kernel
theorem dX4_used_9 : decode cX4_used 9 = .ok (.iconst 1, 1) := by decide +kernel
theorem dX4_used_10 : decode cX4_used 10 = .ok (.isub, 1) := by decide +kernel
theorem dX4_used_11 : decode cX4_used 11 = .ok (.invokestatic 41, 3) := by decide +kernel
theorem dX4_used_14 : decode cX4_used 14 = .ok (.ifCond .ne 7, 3) := by decide +kernel
theorem dX4_used_17 : decode cX4_used 17 = .ok (.iconst 1, 1) := by decide +kernel
theorem dX4_used_18 : decode cX4_used 18 = .ok (.goto 17, 3) := by decide +kernel
theorem dX4_used_21 : decode cX4_used 21 = .ok (.iload_n 2, 1) := by decide +kernel
theorem dX4_used_22 : decode cX4_used 22 = .ok (.iconst 0, 1) := by decide +kernel
theorem dX4_used_23 : decode cX4_used 23 = .ok (.iconst 3, 1) := by decide +kernel
theorem dX4_used_24 : decode cX4_used 24 = .ok (.invokestatic 41, 3) := by decide +kernel
theorem dX4_used_27 : decode cX4_used 27 = .ok (.ifCond .eq 7, 3) := by decide +kernel
theorem dX4_used_30 : decode cX4_used 30 = .ok (.iconst 0, 1) := by decide +kernel
theorem dX4_used_31 : decode cX4_used 31 = .ok (.goto 4, 3) := by decide +kernel
theorem dX4_used_34 : decode cX4_used 34 = .ok (.iconst 2, 1) := by decide +kernel
theorem dX4_used_35 : decode cX4_used 35 = .ok (.putfield 37, 3) := by decide +kernel
theorem dX4_used_38 : decode cX4_used 38 = .ok (.aload_n 0, 1) := by decide +kernel
theorem dX4_used_39 : decode cX4_used 39 = .ok (.getfield 37, 3) := by decide +kernel
theorem dX4_used_42 : decode cX4_used 42 = .ok (.ifCond .le 7, 3) := by decide +kernel
theorem dX4_used_45 : decode cX4_used 45 = .ok (.iconst 0, 1) := by decide +kernel
theorem dX4_used_46 : decode cX4_used 46 = .ok (.goto 9, 3) := by decide +kernel
theorem dX4_used_49 : decode cX4_used 49 = .ok (.aload_n 0, 1) := by decide +kernel
theorem dX4_used_50 : decode cX4_used 50 = .ok (.iload_n 1, 1) := by decide +kernel
theorem dX4_used_51 : decode cX4_used 51 = .ok (.iload_n 2, 1) := by decide +kernel
theorem dX4_used_52 : decode cX4_used 52 = .ok (.invokevirtual 298, 3) := by decide +kernel
theorem dX4_used_55 : decode cX4_used 55 = .ok (.ireturn, 1) := by decide +kernel
theorem dX4_parent_0 : decode cX4_parent 0 = .ok (.aload_n 0, 1) := by decide +kernel
theorem dX4_parent_1 : decode cX4_parent 1 = .ok (.aload_n 0, 1) := by decide +kernel
theorem dX4_parent_2 : decode cX4_parent 2 = .ok (.iload_n 1, 1) := by decide +kernel
theorem dX4_parent_3 : decode cX4_parent 3 = .ok (.invokevirtual 103, 3) := by decide +kernel
theorem dX4_parent_6 : decode cX4_parent 6 = .ok (.ifCond .eq 7, 3) := by decide +kernel
theorem dX4_parent_9 : decode cX4_parent 9 = .ok (.iconst 0, 1) := by decide +kernel
theorem dX4_parent_10 : decode cX4_parent 10 = .ok (.goto 4, 3) := by decide +kernel
theorem dX4_parent_13 : decode cX4_parent 13 = .ok (.iconst 1, 1) := by decide +kernel
theorem dX4_parent_14 : decode cX4_parent 14 = .ok (.putfield 37, 3) := by decide +kernel
theorem dX4_parent_17 : decode cX4_parent 17 = .ok (.aload_n 0, 1) := by decide +kernel
theorem dX4_parent_18 : decode cX4_parent 18 = .ok (.getfield 37, 3) := by decide +kernel
theorem dX4_parent_21 : decode cX4_parent 21 = .ok (.ifCond .le 7, 3) := by decide +kernel
theorem dX4_parent_24 : decode cX4_parent 24 = .ok (.iconst 0, 1) := by decide +kernel
theorem dX4_parent_25 : decode cX4_parent 25 = .ok (.goto 11, 3) := by decide +kernel
theorem dX4_parent_28 : decode cX4_parent 28 = .ok (.aload_n 0, 1) := by decide +kernel
theorem dX4_parent_29 : decode cX4_parent 29 = .ok (.getfield 7, 3) := by decide +kernel
theorem dX4_parent_32 : decode cX4_parent 32 = .ok (.iconst 4, 1) := by decide +kernel
theorem dX4_parent_33 : decode cX4_parent 33 = .ok (.iload_n 1, 1) := by decide +kernel
theorem dX4_parent_34 : decode cX4_parent 34 = .ok (.iadd, 1) := by decide +kernel
theorem dX4_parent_35 : decode cX4_parent 35 = .ok (.iaload, 1) := by decide +kernel
theorem dX4_parent_36 : decode cX4_parent 36 = .ok (.ireturn, 1) := by decide +kernel
theorem dX4_resolvedShare_0 : decode cX4_resolvedShare 0 = .ok (.aload_n 0, 1) := by decide +kernel
theorem dX4_resolvedShare_1 : decode cX4_resolvedShare 1 = .ok (.iconst 0, 1) := by decide +kernel
theorem dX4_resolvedShare_2 : decode cX4_resolvedShare 2 = .ok (.putfield 37, 3) := by decide +kernel
theorem dX4_resolvedShare_5 : decode cX4_resolvedShare 5 = .ok (.aload_n 0, 1) := by decide +kernel
theorem dX4_resolvedShare_6 : decode cX4_resolvedShare 6 = .ok (.getfield 7, 3) := by decide +kernel
theorem dX4_resolvedShare_9 : decode cX4_resolvedShare 9 = .ok (.iconst 3, 1) := by decide +kernel
theorem dX4_resolvedShare_10 : decode cX4_resolvedShare 10 = .ok (.iaload, 1) := by decide +kernel
theorem dX4_resolvedShare_11 : decode cX4_resolvedShare 11 = .ok (.ifCond .ne 7, 3) := by decide +kernel
theorem dX4_resolvedShare_14 : decode cX4_resolvedShare 14 = .ok (.dconst 1, 1) := by decide +kernel
theorem dX4_resolvedShare_15 : decode cX4_resolvedShare 15 = .ok (.goto 20, 3) := by decide +kernel
theorem dX4_resolvedShare_18 : decode cX4_resolvedShare 18 = .ok (.dconst 1, 1) := by decide +kernel
theorem dX4_resolvedShare_19 : decode cX4_resolvedShare 19 = .ok (.aload_n 0, 1) := by decide +kernel
theorem dX4_resolvedShare_20 : decode cX4_resolvedShare 20 = .ok (.iconst 1, 1) := by decide +kernel
theorem dX4_resolvedShare_21 : decode cX4_resolvedShare 21 = .ok (.iconst 1, 1) := by decide +kernel
theorem dX4_resolvedShare_22 : decode cX4_resolvedShare 22 = .ok (.invokevirtual 268, 3) := by decide +kernel
theorem dX4_resolvedShare_25 : decode cX4_resolvedShare 25 = .ok (.i2d, 1) := by decide +kernel
theorem dX4_resolvedShare_26 : decode cX4_resolvedShare 26 = .ok (.dmul, 1) := by decide +kernel
theorem dX4_resolvedShare_27 : decode cX4_resolvedShare 27 = .ok (.aload_n 0, 1) := by decide +kernel
theorem dX4_resolvedShare_28 : decode cX4_resolvedShare 28 = .ok (.getfield 7, 3) := by decide +kernel
theorem dX4_resolvedShare_31 : decode cX4_resolvedShare 31 = .ok (.iconst 3, 1) := by decide +kernel
theorem dX4_resolvedShare_32 : decode cX4_resolvedShare 32 = .ok (.iaload, 1) := by decide +kernel
theorem dX4_resolvedShare_33 : decode cX4_resolvedShare 33 = .ok (.i2d, 1) := by decide +kernel
theorem dX4_resolvedShare_34 : decode cX4_resolvedShare 34 = .ok (.ddiv, 1) := by decide +kernel
theorem dX4_resolvedShare_35 : decode cX4_resolvedShare 35 = .ok (.dreturn, 1) := by decide +kernel
theorem dX4_mix_0 : decode cX4_mix 0 = .ok (.aload_n 0, 1) := by decide +kernel
theorem dX4_mix_1 : decode cX4_mix 1 = .ok (.ldc2_w 301, 3) := by decide +kernel
theorem dX4_mix_4 : decode cX4_mix 4 = .ok (.aload_n 0, 1) := by decide +kernel
theorem dX4_mix_5 : decode cX4_mix 5 = .ok (.getfield 303, 3) := by decide +kernel
theorem dX4_mix_8 : decode cX4_mix 8 = .ok (.lmul, 1) := by decide +kernel
theorem dX4_mix_9 : decode cX4_mix 9 = .ok (.lload_n 1, 1) := by decide +kernel
theorem dX4_mix_10 : decode cX4_mix 10 = .ok (.ladd, 1) := by decide +kernel
theorem dX4_mix_11 : decode cX4_mix 11 = .ok (.putfield 303, 3) := by decide +kernel
theorem dX4_mix_14 : decode cX4_mix 14 = .ok (.return_, 1) := by decide +kernel
theorem dX4_mixParts_0 : decode cX4_mixParts 0 = .ok (.iconst 0, 1) := by decide +kernel
theorem dX4_mixParts_1 : decode cX4_mixParts 1 = .ok (.istore_n 1, 1) := by decide +kernel
theorem dX4_mixParts_2 : decode cX4_mixParts 2 = .ok (.iload_n 1, 1) := by decide +kernel
theorem dX4_mixParts_3 : decode cX4_mixParts 3 = .ok (.bipush 6, 2) := by decide +kernel
theorem dX4_mixParts_5 : decode cX4_mixParts 5 = .ok (.aload_n 0, 1) := by decide +kernel
theorem dX4_mixParts_6 : decode cX4_mixParts 6 = .ok (.getfield 7, 3) := by decide +kernel
theorem dX4_mixParts_9 : decode cX4_mixParts 9 = .ok (.iconst 1, 1) := by decide +kernel
theorem dX4_mixParts_10 : decode cX4_mixParts 10 = .ok (.iaload, 1) := by decide +kernel
theorem dX4_mixParts_11 : decode cX4_mixParts 11 = .ok (.imul, 1) := by decide +kernel
theorem dX4_mixParts_12 : decode cX4_mixParts 12 = .ok (.if_icmp .ge 26, 3) := by decide +kernel
theorem dX4_mixParts_15 : decode cX4_mixParts 15 = .ok (.aload_n 0, 1) := by decide +kernel
theorem dX4_mixParts_16 : decode cX4_mixParts 16 = .ok (.aload_n 0, 1) := by decide +kernel
theorem dX4_mixParts_17 : decode cX4_mixParts 17 = .ok (.iload_n 1, 1) := by decide +kernel
theorem dX4_mixParts_18 : decode cX4_mixParts 18 = .ok (.bipush 6, 2) := by decide +kernel
theorem dX4_mixParts_20 : decode cX4_mixParts 20 = .ok (.idiv, 1) := by decide +kernel
theorem dX4_mixParts_21 : decode cX4_mixParts 21 = .ok (.iload_n 1, 1) := by decide +kernel
theorem dX4_mixParts_22 : decode cX4_mixParts 22 = .ok (.bipush 6, 2) := by decide +kernel
theorem dX4_mixParts_24 : decode cX4_mixParts 24 = .ok (.irem, 1) := by decide +kernel
theorem dX4_mixParts_25 : decode cX4_mixParts 25 = .ok (.invokevirtual 292, 3) := by decide +kernel
theorem dX4_mixParts_28 : decode cX4_mixParts 28 = .ok (.i2l, 1) := by decide +kernel
theorem dX4_mixParts_29 : decode cX4_mixParts 29 = .ok (.invokevirtual 307, 3) := by decide +kernel
theorem dX4_mixParts_32 : decode cX4_mixParts 32 = .ok (.iinc 1 1, 3) := by decide +kernel
theorem dX4_mixParts_35 : decode cX4_mixParts 35 = .ok (.goto (-33), 3) := by decide +kernel
theorem dX4_mixParts_38 : decode cX4_mixParts 38 = .ok (.iconst 0, 1) := by decide +kernel
theorem dX4_mixParts_39 : decode cX4_mixParts 39 = .ok (.istore_n 1, 1) := by decide +kernel
theorem dX4_mixParts_40 : decode cX4_mixParts 40 = .ok (.iload_n 1, 1) := by decide +kernel
theorem dX4_mixParts_41 : decode cX4_mixParts 41 = .ok (.bipush 8, 2) := by decide +kernel
theorem dX4_mixParts_43 : decode cX4_mixParts 43 = .ok (.aload_n 0, 1) := by decide +kernel
theorem dX4_mixParts_44 : decode cX4_mixParts 44 = .ok (.getfield 7, 3) := by decide +kernel
theorem dX4_mixParts_47 : decode cX4_mixParts 47 = .ok (.iconst 2, 1) := by decide +kernel
theorem dX4_mixParts_48 : decode cX4_mixParts 48 = .ok (.iaload, 1) := by decide +kernel
theorem dX4_mixParts_49 : decode cX4_mixParts 49 = .ok (.imul, 1) := by decide +kernel
theorem dX4_mixParts_50 : decode cX4_mixParts 50 = .ok (.if_icmp .ge 26, 3) := by decide +kernel
theorem dX4_mixParts_53 : decode cX4_mixParts 53 = .ok (.aload_n 0, 1) := by decide +kernel
theorem dX4_mixParts_54 : decode cX4_mixParts 54 = .ok (.aload_n 0, 1) := by decide +kernel
theorem dX4_mixParts_55 : decode cX4_mixParts 55 = .ok (.iload_n 1, 1) := by decide +kernel
theorem dX4_mixParts_56 : decode cX4_mixParts 56 = .ok (.bipush 8, 2) := by decide +kernel
theorem dX4_mixParts_58 : decode cX4_mixParts 58 = .ok (.idiv, 1) := by decide +kernel
theorem dX4_mixParts_59 : decode cX4_mixParts 59 = .ok (.iload_n 1, 1) := by decide +kernel
theorem dX4_mixParts_60 : decode cX4_mixParts 60 = .ok (.bipush 8, 2) := by decide +kernel
theorem dX4_mixParts_62 : decode cX4_mixParts 62 = .ok (.irem, 1) := by decide +kernel
theorem dX4_mixParts_63 : decode cX4_mixParts 63 = .ok (.invokevirtual 295, 3) := by decide +kernel
theorem dX4_mixParts_66 : decode cX4_mixParts 66 = .ok (.i2l, 1) := by decide +kernel
theorem dX4_mixParts_67 : decode cX4_mixParts 67 = .ok (.invokevirtual 307, 3) := by decide +kernel
theorem dX4_mixParts_70 : decode cX4_mixParts 70 = .ok (.iinc 1 1, 3) := by decide +kernel
theorem dX4_mixParts_73 : decode cX4_mixParts 73 = .ok (.goto (-33), 3) := by decide +kernel
theorem dX4_mixParts_76 : decode cX4_mixParts 76 = .ok (.iconst 0, 1) := by decide +kernel
theorem dX4_mixParts_77 : decode cX4_mixParts 77 = .ok (.istore_n 1, 1) := by decide +kernel
theorem dX4_mixParts_78 : decode cX4_mixParts 78 = .ok (.iload_n 1, 1) := by decide +kernel
theorem dX4_mixParts_79 : decode cX4_mixParts 79 = .ok (.iconst 4, 1) := by decide +kernel
theorem dX4_mixParts_80 : decode cX4_mixParts 80 = .ok (.aload_n 0, 1) := by decide +kernel
theorem dX4_mixParts_81 : decode cX4_mixParts 81 = .ok (.getfield 7, 3) := by decide +kernel
theorem dX4_mixParts_84 : decode cX4_mixParts 84 = .ok (.iconst 3, 1) := by decide +kernel
theorem dX4_mixParts_85 : decode cX4_mixParts 85 = .ok (.iaload, 1) := by decide +kernel
theorem dX4_mixParts_86 : decode cX4_mixParts 86 = .ok (.imul, 1) := by decide +kernel
theorem dX4_mixParts_87 : decode cX4_mixParts 87 = .ok (.if_icmp .ge 24, 3) := by decide +kernel
theorem dX4_mixParts_90 : decode cX4_mixParts 90 = .ok (.aload_n 0, 1) := by decide +kernel
theorem dX4_mixParts_91 : decode cX4_mixParts 91 = .ok (.aload_n 0, 1) := by decide +kernel
theorem dX4_mixParts_92 : decode cX4_mixParts 92 = .ok (.iload_n 1, 1) := by decide +kernel
theorem dX4_mixParts_93 : decode cX4_mixParts 93 = .ok (.iconst 4, 1) := by decide +kernel
theorem dX4_mixParts_94 : decode cX4_mixParts 94 = .ok (.idiv, 1) := by decide +kernel
theorem dX4_mixParts_95 : decode cX4_mixParts 95 = .ok (.iload_n 1, 1) := by decide +kernel
theorem dX4_mixParts_96 : decode cX4_mixParts 96 = .ok (.iconst 4, 1) := by decide +kernel
theorem dX4_mixParts_97 : decode cX4_mixParts 97 = .ok (.irem, 1) := by decide +kernel
theorem dX4_mixParts_98 : decode cX4_mixParts 98 = .ok (.invokevirtual 298, 3) := by decide +kernel
theorem dX4_mixParts_101 : decode cX4_mixParts 101 = .ok (.i2l, 1) := by decide +kernel
theorem dX4_mixParts_102 : decode cX4_mixParts 102 = .ok (.invokevirtual 307, 3) := by decide +kernel
theorem dX4_mixParts_105 : decode cX4_mixParts 105 = .ok (.iinc 1 1, 3) := by decide +kernel
theorem dX4_mixParts_108 : decode cX4_mixParts 108 = .ok (.goto (-30), 3) := by decide +kernel
theorem dX4_mixParts_111 : decode cX4_mixParts 111 = .ok (.return_, 1) := by decide +kernel
theorem dX4_digest_0 : decode cX4_digest 0 = .ok (.aload_n 0, 1) := by decide +kernel
theorem dX4_digest_1 : decode cX4_digest 1 = .ok (.iconst 0, 1) := by decide +kernel
theorem dX4_digest_2 : decode cX4_digest 2 = .ok (.putfield 37, 3) := by decide +kernel
theorem dX4_digest_5 : decode cX4_digest 5 = .ok (.aload_n 0, 1) := by decide +kernel
theorem dX4_digest_6 : decode cX4_digest 6 = .ok (.ldc2_w 311, 3) := by decide +kernel
theorem dX4_digest_9 : decode cX4_digest 9 = .ok (.putfield 303, 3) := by decide +kernel
theorem dX4_digest_12 : decode cX4_digest 12 = .ok (.iconst 0, 1) := by decide +kernel
theorem dX4_digest_13 : decode cX4_digest 13 = .ok (.istore_n 1, 1) := by decide +kernel
theorem dX4_digest_14 : decode cX4_digest 14 = .ok (.iload_n 1, 1) := by decide +kernel
theorem dX4_digest_15 : decode cX4_digest 15 = .ok (.bipush 11, 2) := by decide +kernel
theorem dX4_digest_17 : decode cX4_digest 17 = .ok (.if_icmp .ge 19, 3) := by decide +kernel
theorem dX4_digest_20 : decode cX4_digest 20 = .ok (.aload_n 0, 1) := by decide +kernel
theorem dX4_digest_21 : decode cX4_digest 21 = .ok (.aload_n 0, 1) := by decide +kernel
theorem dX4_digest_22 : decode cX4_digest 22 = .ok (.iload_n 1, 1) := by decide +kernel
theorem dX4_digest_23 : decode cX4_digest 23 = .ok (.invokevirtual 283, 3) := by decide +kernel
theorem dX4_digest_26 : decode cX4_digest 26 = .ok (.i2l, 1) := by decide +kernel
theorem dX4_digest_27 : decode cX4_digest 27 = .ok (.invokevirtual 307, 3) := by decide +kernel
theorem dX4_digest_30 : decode cX4_digest 30 = .ok (.iinc 1 1, 3) := by decide +kernel
theorem dX4_digest_33 : decode cX4_digest 33 = .ok (.goto (-19), 3) := by decide +kernel
theorem dX4_digest_36 : decode cX4_digest 36 = .ok (.iconst 0, 1) := by decide +kernel
theorem dX4_digest_37 : decode cX4_digest 37 = .ok (.istore_n 1, 1) := by decide +kernel
theorem dX4_digest_38 : decode cX4_digest 38 = .ok (.iload_n 1, 1) := by decide +kernel
theorem dX4_digest_39 : decode cX4_digest 39 = .ok (.aload_n 0, 1) := by decide +kernel
theorem dX4_digest_40 : decode cX4_digest 40 = .ok (.getfield 7, 3) := by decide +kernel
theorem dX4_digest_43 : decode cX4_digest 43 = .ok (.iconst 0, 1) := by decide +kernel
theorem dX4_digest_44 : decode cX4_digest 44 = .ok (.iaload, 1) := by decide +kernel
theorem dX4_digest_45 : decode cX4_digest 45 = .ok (.if_icmp .ge 44, 3) := by decide +kernel
theorem dX4_digest_48 : decode cX4_digest 48 = .ok (.aload_n 0, 1) := by decide +kernel
theorem dX4_digest_49 : decode cX4_digest 49 = .ok (.aload_n 0, 1) := by decide +kernel
theorem dX4_digest_50 : decode cX4_digest 50 = .ok (.getfield 7, 3) := by decide +kernel
theorem dX4_digest_53 : decode cX4_digest 53 = .ok (.iconst 4, 1) := by decide +kernel
theorem dX4_digest_54 : decode cX4_digest 54 = .ok (.iload_n 1, 1) := by decide +kernel
theorem dX4_digest_55 : decode cX4_digest 55 = .ok (.iadd, 1) := by decide +kernel
theorem dX4_digest_56 : decode cX4_digest 56 = .ok (.iaload, 1) := by decide +kernel
theorem dX4_digest_57 : decode cX4_digest 57 = .ok (.i2l, 1) := by decide +kernel
theorem dX4_digest_58 : decode cX4_digest 58 = .ok (.invokevirtual 307, 3) := by decide +kernel
theorem dX4_digest_61 : decode cX4_digest 61 = .ok (.aload_n 0, 1) := by decide +kernel
theorem dX4_digest_62 : decode cX4_digest 62 = .ok (.aload_n 0, 1) := by decide +kernel
theorem dX4_digest_63 : decode cX4_digest 63 = .ok (.iload_n 1, 1) := by decide +kernel
theorem dX4_digest_64 : decode cX4_digest 64 = .ok (.iconst 0, 1) := by decide +kernel
theorem dX4_digest_65 : decode cX4_digest 65 = .ok (.invokevirtual 237, 3) := by decide +kernel
theorem dX4_digest_68 : decode cX4_digest 68 = .ok (.i2l, 1) := by decide +kernel
theorem dX4_digest_69 : decode cX4_digest 69 = .ok (.invokevirtual 307, 3) := by decide +kernel
theorem dX4_digest_72 : decode cX4_digest 72 = .ok (.aload_n 0, 1) := by decide +kernel
theorem dX4_digest_73 : decode cX4_digest 73 = .ok (.aload_n 0, 1) := by decide +kernel
theorem dX4_digest_74 : decode cX4_digest 74 = .ok (.iload_n 1, 1) := by decide +kernel
theorem dX4_digest_75 : decode cX4_digest 75 = .ok (.iconst 1, 1) := by decide +kernel
theorem dX4_digest_76 : decode cX4_digest 76 = .ok (.invokevirtual 237, 3) := by decide +kernel
theorem dX4_digest_79 : decode cX4_digest 79 = .ok (.i2l, 1) := by decide +kernel
theorem dX4_digest_80 : decode cX4_digest 80 = .ok (.invokevirtual 307, 3) := by decide +kernel
theorem dX4_digest_83 : decode cX4_digest 83 = .ok (.iinc 1 1, 3) := by decide +kernel
theorem dX4_digest_86 : decode cX4_digest 86 = .ok (.goto (-48), 3) := by decide +kernel
theorem dX4_digest_89 : decode cX4_digest 89 = .ok (.aload_n 0, 1) := by decide +kernel
theorem dX4_digest_90 : decode cX4_digest 90 = .ok (.invokevirtual 313, 3) := by decide +kernel
theorem dX4_digest_93 : decode cX4_digest 93 = .ok (.aload_n 0, 1) := by decide +kernel
theorem dX4_digest_94 : decode cX4_digest 94 = .ok (.aload_n 0, 1) := by decide +kernel
theorem dX4_digest_95 : decode cX4_digest 95 = .ok (.getfield 138, 3) := by decide +kernel
theorem dX4_digest_98 : decode cX4_digest 98 = .ok (.i2l, 1) := by decide +kernel
theorem dX4_digest_99 : decode cX4_digest 99 = .ok (.invokevirtual 307, 3) := by decide +kernel
theorem dX4_digest_102 : decode cX4_digest 102 = .ok (.iconst 0, 1) := by decide +kernel
theorem dX4_digest_103 : decode cX4_digest 103 = .ok (.istore_n 1, 1) := by decide +kernel
theorem dX4_digest_104 : decode cX4_digest 104 = .ok (.iload_n 1, 1) := by decide +kernel
theorem dX4_digest_105 : decode cX4_digest 105 = .ok (.aload_n 0, 1) := by decide +kernel
theorem dX4_digest_106 : decode cX4_digest 106 = .ok (.getfield 138, 3) := by decide +kernel
theorem dX4_digest_109 : decode cX4_digest 109 = .ok (.if_icmp .ge 20, 3) := by decide +kernel
theorem dX4_digest_112 : decode cX4_digest 112 = .ok (.aload_n 0, 1) := by decide +kernel
theorem dX4_digest_113 : decode cX4_digest 113 = .ok (.aload_n 0, 1) := by decide +kernel
theorem dX4_digest_114 : decode cX4_digest 114 = .ok (.getfield 19, 3) := by decide +kernel
theorem dX4_digest_117 : decode cX4_digest 117 = .ok (.iload_n 1, 1) := by decide +kernel
theorem dX4_digest_118 : decode cX4_digest 118 = .ok (.iaload, 1) := by decide +kernel
theorem dX4_digest_119 : decode cX4_digest 119 = .ok (.i2l, 1) := by decide +kernel
theorem dX4_digest_120 : decode cX4_digest 120 = .ok (.invokevirtual 307, 3) := by decide +kernel
theorem dX4_digest_123 : decode cX4_digest 123 = .ok (.iinc 1 1, 3) := by decide +kernel
theorem dX4_digest_126 : decode cX4_digest 126 = .ok (.goto (-22), 3) := by decide +kernel
theorem dX4_digest_129 : decode cX4_digest 129 = .ok (.aload_n 0, 1) := by decide +kernel
theorem dX4_digest_130 : decode cX4_digest 130 = .ok (.getfield 303, 3) := by decide +kernel
theorem dX4_digest_133 : decode cX4_digest 133 = .ok (.lreturn, 1) := by decide +kernel
end
section
/-! ===== the abstract memory: 55 cells by their places; ints by place and index; now, other; the long h; the long out[0] ===== -/
abbrev vwCl : List vw_C := [(RX0, TX0, 18), (RX1, TX1, 6), (RX2, TX2, 2), (RX3, TX3, 3), (RX4, TX4, 26)]
abbrev Mm : Type := (Nat → Nat → Int32) × (Nat × Nat) × (Int64 × Int64)
def mNow (μ : Mm) : Nat := μ.2.1.1
def mOth (μ : Mm) : Nat := μ.2.1.2
def mH (μ : Mm) : Int64 := μ.2.2.1
def mOut (μ : Mm) : Int64 := μ.2.2.2
def setA (μ : Mm) (a : Nat) (f : Nat → Int32) : Mm := (fun b => if b = a then f else μ.1 b, μ.2)
def setI (μ : Mm) (a k : Nat) (v : Int32) : Mm := setA μ a (upd (μ.1 a) k v)
def setNow (μ : Mm) (x : Nat) : Mm := (μ.1, (x, μ.2.1.2), μ.2.2)
def setOth (μ : Mm) (x : Nat) : Mm := (μ.1, (μ.2.1.1, x), μ.2.2)
def setH (μ : Mm) (x : Int64) : Mm := (μ.1, μ.2.1, (x, μ.2.2.2))
def setOut (μ : Mm) (x : Int64) : Mm := (μ.1, μ.2.1, (μ.2.2.1, x))
def isF (a : Nat) : Prop := a = 3 ∨ a = 24
def isL (a : Nat) : Prop := a = 17 ∨ a = 38
def WF (μ : Mm) : Prop := isF (mNow μ) ∧ isF (mOth μ)
/-- what lies at a place: (0, n) ints, n of them; (1, c) an object of the class c; (2, 1) the long row -/
def kdL : List (Nat × Nat) := [(1, 3), (1, 2), (0, 50),
  (1, 0), (0, 16), (0, 30), (0, 30), (0, 30), (0, 20), (0, 20), (0, 20), (0, 20), (0, 20), (0, 20), (0, 30), (0, 30), (0, 20), (1, 1), (0, 416), (0, 416), (0, 416), (0, 416), (0, 16), (0, 16),
  (1, 0), (0, 16), (0, 30), (0, 30), (0, 30), (0, 20), (0, 20), (0, 20), (0, 20), (0, 20), (0, 20), (0, 30), (0, 30), (0, 20), (1, 1), (0, 416), (0, 416), (0, 416), (0, 416), (0, 16), (0, 16),
  (1, 4), (0, 290), (0, 290), (0, 416), (0, 50), (0, 48), (0, 48), (0, 48), (0, 30), (2, 1)]
def kd (a : Nat) : Nat × Nat := kdL.getD a (9, 0)
def alen (a : Nat) : Nat := (kd a).2
def flM (ad : Nat → Nat) (μ : Mm) (ci a : Nat) : List Value := match ci with
  | 0 => [.int (μ.1 a 0), .ref (ad (a + 1)), .int (μ.1 a 2), .ref (ad (a + 2)), .ref (ad (a + 3)), .ref (ad (a + 4)), .int (μ.1 a 6), .ref (ad (a + 5)), .ref (ad (a + 6)), .ref (ad (a + 7)), .ref (ad (a + 8)), .ref (ad (a + 9)), .ref (ad (a + 10)), .int (μ.1 a 13), .ref (ad (a + 11)), .ref (ad (a + 12)), .ref (ad (a + 13)), .ref (ad (a + 14))]
  | 1 => [.ref (ad (a + 1)), .ref (ad (a + 2)), .ref (ad (a + 3)), .ref (ad (a + 4)), .ref (ad (a + 5)), .ref (ad (a + 6))]
  | 2 => [.ref (ad (a + 1)), .int (μ.1 a 1)]
  | 3 => [.ref (ad (a + 1)), .ref (ad (mNow μ)), .ref (ad (mOth μ))]
  | _ => [.int (μ.1 a 0), .ref (ad (a + 1)), .ref (ad (a + 2)), .ref (ad (a + 3)), .int (μ.1 a 4), .int (μ.1 a 5), .ref (ad (a + 4)), .int (μ.1 a 7), .ref (ad (a + 5)), .ref (ad (a + 6)), .ref (ad (a + 7)), .ref (ad (a + 8)), .int (μ.1 a 12), .int (μ.1 a 13), .int (μ.1 a 14), .int (μ.1 a 15), .int (μ.1 a 16), .int (μ.1 a 17), .int (μ.1 a 18), .int (μ.1 a 19), .int (μ.1 a 20), .int (μ.1 a 21), .int (μ.1 a 22), .int (μ.1 a 23), .int (μ.1 a 24), .long (mH μ)]
def ceM (cI cL : ClassId) (ad : Nat → Nat) (μ : Mm) (a : Nat) : va_E := if (kd a).1 = 0 then .inl (cI, (kd a).2, .inl (μ.1 a)) else if (kd a).1 = 1 then .inr ((kd a).2, flM ad μ (kd a).2 a) else .inl (cL, 1, .inr (.inl (fun j => if j = 0 then mOut μ else 0)))
def wsM (cI cL : ClassId) (ad : Nat → Nat) (μ : Mm) : va_W := (List.range 55).map (fun a => (ad a, ceM cI cL ad μ a))
theorem kd_lt {a : Nat} {p : Nat × Nat} (h : kd a = p) (hp : p.1 < 9) : a < 55 := by
  rcases Nat.lt_or_ge a 55 with q | q
  · exact q
  · have h1 : kd a = (9, 0) := by
      unfold kd
      rw [List.getD_eq_getElem?_getD, List.getElem?_eq_none (by show 55 ≤ a; exact q)]
      rfl
    rw [h1] at h
    subst h
    exact absurd hp (by decide)
theorem wsM_at {cI cL : ClassId} {ad : Nat → Nat} {μ : Mm} {a : Nat} (h : a < 55) : (wsM cI cL ad μ)[a]? = some (ad a, ceM cI cL ad μ a) := by
  simp [wsM, h]
theorem wsM_none {cI cL : ClassId} {ad : Nat → Nat} {μ : Mm} {a : Nat} (h : ¬ a < 55) : (wsM cI cL ad μ)[a]? = none := by
  simp [wsM]; omega
theorem wsM_get {cI cL : ClassId} {ad : Nat → Nat} {μ : Mm} {a : Nat} {q : Nat × va_E} (h : (wsM cI cL ad μ)[a]? = some q) : a < 55 ∧ q = (ad a, ceM cI cL ad μ a) := by
  by_cases ha : a < 55
  · rw [wsM_at ha] at h
    exact ⟨ha, (Option.some.inj h).symm⟩
  · rw [wsM_none ha] at h
    cases h
theorem ce_arr {cI cL : ClassId} {ad : Nat → Nat} {μ : Mm} {a n : Nat} (h : kd a = (0, n)) : ceM cI cL ad μ a = .inl (cI, n, .inl (μ.1 a)) := by simp [ceM, h]
theorem ce_obj {cI cL : ClassId} {ad : Nat → Nat} {μ : Mm} {a ci : Nat} (h : kd a = (1, ci)) : ceM cI cL ad μ a = .inr (ci, flM ad μ ci a) := by simp [ceM, h]
theorem ce_lng {cI cL : ClassId} {ad : Nat → Nat} {μ : Mm} {a n : Nat} (h : kd a = (2, n)) : ceM cI cL ad μ a = .inl (cL, 1, .inr (.inl (fun j => if j = 0 then mOut μ else 0))) := by simp [ceM, h]
theorem ws_arr {cI cL : ClassId} {ad : Nat → Nat} {μ : Mm} {a n : Nat} (h : kd a = (0, n)) : (wsM cI cL ad μ)[a]? = some (ad a, .inl (cI, n, .inl (μ.1 a))) := by rw [wsM_at (kd_lt h (show 0 < 9 by decide)), ce_arr h]
theorem ws_obj {cI cL : ClassId} {ad : Nat → Nat} {μ : Mm} {a ci : Nat} (h : kd a = (1, ci)) : (wsM cI cL ad μ)[a]? = some (ad a, .inr (ci, flM ad μ ci a)) := by rw [wsM_at (kd_lt h (show 1 < 9 by decide)), ce_obj h]
theorem ws_lng {cI cL : ClassId} {ad : Nat → Nat} {μ : Mm} {a n : Nat} (h : kd a = (2, n)) : (wsM cI cL ad μ)[a]? = some (ad a, .inl (cL, 1, .inr (.inl (fun j => if j = 0 then mOut μ else 0)))) := by rw [wsM_at (kd_lt h (show 2 < 9 by decide)), ce_lng h]
theorem wsM_upd {cI cL : ClassId} {ad : Nat → Nat} {μ μ' : Mm} {a : Nat} {e : va_E} (ha : a < 55) (he : e = ceM cI cL ad μ' a) (h : ∀ b, b < 55 → b ≠ a → ceM cI cL ad μ' b = ceM cI cL ad μ b) : (wsM cI cL ad μ).set a (ad a, e) = wsM cI cL ad μ' := by
  subst he
  apply List.ext_getElem?
  intro i
  by_cases hi : i < 55
  · rw [wsM_at hi]
    by_cases hia : i = a
    · subst hia
      rw [List.getElem?_set_self (by simp [wsM]; exact hi)]
    · rw [List.getElem?_set_ne (Ne.symm hia), wsM_at hi, h i hi hia]
  · rw [wsM_none hi]
    have : ¬ i < ((wsM cI cL ad μ).set a (ad a, ceM cI cL ad μ' a)).length := by simp [wsM]; omega
    exact List.getElem?_eq_none (Nat.le_of_not_lt this)
theorem setA_1 (μ : Mm) (a : Nat) (f : Nat → Int32) : (setA μ a f).1 a = f := by simp [setA]
theorem setA_ne (μ : Mm) {a b : Nat} (f : Nat → Int32) (h : b ≠ a) : (setA μ a f).1 b = μ.1 b := by simp [setA, h]
theorem fl_congr {ad : Nat → Nat} {μ μ' : Mm} {ci a : Nat} (h1 : μ'.1 a = μ.1 a) (h2 : μ'.2 = μ.2) : flM ad μ' ci a = flM ad μ ci a := by
  unfold flM mNow mOth mH
  rw [h1, h2]
theorem ce_congr {cI cL : ClassId} {ad : Nat → Nat} {μ μ' : Mm} {a : Nat} (h1 : μ'.1 a = μ.1 a) (h2 : μ'.2 = μ.2) : ceM cI cL ad μ' a = ceM cI cL ad μ a := by
  unfold ceM mOut
  rw [h1, h2, fl_congr h1 h2]
theorem ws_setA {cI cL : ClassId} {ad : Nat → Nat} {μ : Mm} {a n : Nat} {f : Nat → Int32} (h : kd a = (0, n)) : (wsM cI cL ad μ).set a (ad a, .inl (cI, n, .inl f)) = wsM cI cL ad (setA μ a f) :=
  wsM_upd (kd_lt h (show 0 < 9 by decide)) (by rw [ce_arr h, setA_1]) (fun b _ hb => ce_congr (setA_ne μ f hb) rfl)
theorem ws_setF {cI cL : ClassId} {ad : Nat → Nat} {μ : Mm} {a ci k : Nat} {v : Int32} (h : kd a = (1, ci)) (hf : flM ad (setI μ a k v) ci a = (flM ad μ ci a).set k (.int v)) : (wsM cI cL ad μ).set a (ad a, .inr (ci, (flM ad μ ci a).set k (.int v))) = wsM cI cL ad (setI μ a k v) :=
  wsM_upd (kd_lt h (show 1 < 9 by decide)) (by rw [ce_obj h, hf]) (fun b _ hb => ce_congr (setA_ne μ _ hb) rfl)
theorem ce_other {cI cL : ClassId} {ad : Nat → Nat} {μ μ' : Mm} {a : Nat} (hc : ∀ b c, kd b = (1, c) → b ≠ a → flM ad μ' c b = flM ad μ c b) (h1 : μ'.1 = μ.1) (h2 : mOut μ' = mOut μ) : ∀ b, b < 55 → b ≠ a → ceM cI cL ad μ' b = ceM cI cL ad μ b := by
  intro b _ hb
  unfold ceM
  rw [h1, h2]
  by_cases q0 : (kd b).1 = 0
  · rw [if_pos q0, if_pos q0]
  · rw [if_neg q0, if_neg q0]
    by_cases q1 : (kd b).1 = 1
    · rw [if_pos q1, if_pos q1, hc b (kd b).2 (by rw [← q1]) hb]
    · rw [if_neg q1, if_neg q1]
theorem kd_3 : ∀ b, b < 55 → (kd b).1 = 1 → (kd b).2 = 3 → b = 0 := by decide +kernel
theorem kd_4 : ∀ b, b < 55 → (kd b).1 = 1 → 4 ≤ (kd b).2 → b = 45 := by decide +kernel
theorem kd_5 : ∀ b, b < 55 → (kd b).1 = 1 → (kd b).2 ≤ 4 := by decide +kernel
theorem kd_6 : ∀ b, b < 55 → (kd b).1 = 2 → b = 54 := by decide +kernel
theorem kdF {a : Nat} (h : isF a) : kd a = (1, 0) := by rcases h with rfl | rfl <;> rfl
theorem kdL_ {a : Nat} (h : isL a) : kd a = (1, 1) := by rcases h with rfl | rfl <;> rfl
theorem kdFk {a k n : Nat} (h : isF a) (h3 : kd (3 + k) = (0, n)) (h24 : kd (24 + k) = (0, n)) : kd (a + k) = (0, n) := by
  rcases h with rfl | rfl
  · exact h3
  · exact h24
theorem kdLk {a k n : Nat} (h : isL a) (h3 : kd (17 + k) = (0, n)) (h24 : kd (38 + k) = (0, n)) : kd (a + k) = (0, n) := by
  rcases h with rfl | rfl
  · exact h3
  · exact h24
theorem isFL {a : Nat} (h : isF a) : isL (a + 14) := by
  rcases h with rfl | rfl
  · exact Or.inl rfl
  · exact Or.inr rfl
/-- the words that go along with every contract -/
def WS : List Cond := lw_tbl.filter goodWord
theorem memT {w : Cond} (i : Nat) (h : tables_1[i]? = some w) (g : goodWord w = true) : w ∈ WS := List.mem_filter.mpr ⟨List.mem_append_right _ (List.mem_of_getElem? h), g⟩
theorem memP {w : Cond} (i : Nat) (h : (k2_sels lw_privs)[i]? = some w) (g : goodWord w = true) : w ∈ WS := List.mem_filter.mpr ⟨List.mem_append_left _ (List.mem_of_getElem? h), g⟩
theorem good_WS {w : Cond} (h : w ∈ WS) : (w.onTables && w.keeps) = true ∨ ∃ ty, w = .arrayClass ty := good_of_word (List.mem_filter.mp h).2
theorem goodIn_WS {ws : List Cond} (h : ∀ w ∈ ws, w ∈ WS) : GoodIn WS ws := fun w hw => ⟨h w hw, good_WS (h w hw)⟩
/-- the words that need premises of their own -/
def isNw (w : Cond) : Bool := match w with
  | .fieldLinkNest .. => true
  | .methodLinkNest .. => true
  | .castable .. => true
  | .declares .. => true
  | _ => false
def NW : List Cond := tables_1.filter isNw
theorem memN {w : Cond} (i : Nat) (h : tables_1[i]? = some w) (g : isNw w = true) : w ∈ NW := List.mem_filter.mpr ⟨List.mem_of_getElem? h, g⟩
theorem Nw_on {w : Cond} (h : w ∈ NW) : w.onTables = true := by
  have := (List.mem_filter.mp h).2
  cases w <;> first | rfl | simp [isNw] at this
theorem Nw_warm {w : Cond} (h : w ∈ NW) {s U : State} (hW : s.WarmedH U.vm) (hs : va_Nw w s) : va_Nw w U := by
  have := (List.mem_filter.mp h).2
  cases w <;> first | exact va_Nw.warmF hW hs | exact va_Nw.warmM hW hs | exact va_Nw.warmC hW hs | exact va_Nw.warmD hW hs | simp [isNw] at this
def SW : List (String × Nat × String) := tables_1.filterMap (fun w => match w with
  | .stringRef a b c => some (a, b, c)
  | _ => none)
def GL (A : Nat → Prop) (U : State) (H : Heap) : Prop := (∀ w ∈ NW, va_Nw w U) ∧ (∀ q ∈ SW, ∃ sa, vk_R q.1 q.2.1 q.2.2 sa U) ∧ vx_Zq Bundle.tN "UNASSIGNED_STACK" Bundle.steD A U H ∧ vx_Zq Bundle.tN "SUPPRESSED_SENTINEL" Bundle.listD A U H
theorem GL.warm {A : Nat → Prop} {s U : State} {H : Heap} (hW : s.WarmedH U.vm) (h : GL A s H) : GL A U H :=
  ⟨fun w hw => Nw_warm hw hW (h.1 w hw), fun q hq => by obtain ⟨sa, h1⟩ := h.2.1 q hq; exact ⟨sa, vk_R.warm hW h1⟩, vx_Zq.moved hW.alike h.2.2.1, vx_Zq.moved hW.alike h.2.2.2⟩
theorem GL.same {A : Nat → Prop} {s U : State} {H : Heap} (hv : s.vm = U.vm) (h : GL A s H) : GL A U H :=
  ⟨fun w hw => va_Nw.same (Nw_on hw) hv (h.1 w hw), fun q hq => by obtain ⟨sa, h1⟩ := h.2.1 q hq; exact ⟨sa, vk_R.same hv.symm h1⟩, vx_Zq.moved (by rw [hv]; exact Vm.Alike.refl _) h.2.2.1, vx_Zq.moved (by rw [hv]; exact Vm.Alike.refl _) h.2.2.2⟩
theorem GL.kept {A : Nat → Prop} {s : State} {H H1 : Heap} (hq : ∀ a : Nat, a < H.size → ¬ A a → H1[a]? = H[a]?) (h : GL A s H) : GL A s H1 := ⟨h.1, h.2.1, vx_Zq.kept h.2.2.1 hq, vx_Zq.kept h.2.2.2 hq⟩
theorem GL.narrow {A B : Nat → Prop} {s : State} {H : Heap} (hAB : ∀ q, B q → A q) (h : GL A s H) : GL B s H := ⟨h.1, h.2.1, vx_Zq.narrow h.2.2.1 hAB, vx_Zq.narrow h.2.2.2 hAB⟩
/-- the cells that a method may change -/
def AA (ad : Nat → Nat) (sz : Nat) : Nat → Prop := fun q => (∃ k, k < 55 ∧ q = ad k) ∨ sz ≤ q
end
section
/-! ===== contracts over the abstract memory, and one row an instruction ===== -/
def RepA (D : va_G) (cI cL : ClassId) (ad : Nat → Nat) (A : Nat → Prop) (H0 : Heap) (μ : Mm) (H : Heap) (locs : List Loc) : Prop := va_P D vwCl (wsM cI cL ad μ) H ∧ va_D A (wsM cI cL ad μ) ∧ va_S A H0 H locs ∧ WF μ
def AW (p : Program) (l : Launch) (e : Env) (R : Room) (s : State) (m : MethodId) (args : Array Value) (below : List Frame) (meth : Method) (c : Code) (nL : Nat) (D : va_G) (cI cL : ClassId) (ad : Nat → Nat) (A : Nat → Prop) (cs sl : Nat) (Q : State → Prop) (pc : Nat) (lv : List (Nat × Value)) (st : List Value) (μ : Mm) : Prop :=
  ∀ (H : Heap) (locs : List Loc) (ls : Array Slot), RepA D cI cL ad A s.heap μ H locs → lv_has ls nL lv → W p l e R s m args below meth c H locs cs sl Q (F0 m pc ls st)
def CX (p : Program) (l : Launch) (s : State) (m : MethodId) (args : Array Value) (meth : Method) (c : Code) (own : String) (b : ByteArray) (nL : Nat) (ret : Option FieldType) (D : va_G) (cI cL : ClassId) (A : Nat → Prop) : Prop :=
  p.tables.exec = Jvm.exec ∧ c.code = b ∧ c.maxLocals = nL ∧ s.vm.findClass own = some m.cls ∧ (∀ w ∈ WS, w.before args s = true) ∧ meth.locks = false ∧ meth.sig.returnType = ret ∧ va_K D vwCl [(cI, .int), (cL, .long)] s ∧ GL A s s.heap ∧ (∀ q, s.heap.size ≤ q → A q) ∧ l.stackTraces = false
def rmA (d mc ms : Nat) : Room := { frames := d, cells := mc, slots := ms, locals := 31 * d }
abbrev Rs : Type := String ⊕ Option Value
def mcR (r : Rs) : Nat := match r with
  | .inl _ => 1
  | .inr _ => 0
def msR (r : Rs) : Nat := match r with
  | .inl _ => 6
  | .inr _ => 0
def WSy (y : MethodName) (b : ByteArray) (nL : Nat) (ret : Option FieldType) : List Cond := Cond.code y b nL ret :: WS
def PcA (D : va_G) (cI cL : ClassId) (ad : Nat → Nat) (As : List Value) (μ : Mm) (sz : Nat) : Array Value → State → Prop :=
  va_Pc As (fun U => U.heap.size = sz ∧ va_P D vwCl (wsM cI cL ad μ) U.heap ∧ va_K D vwCl [(cI, .int), (cL, .long)] U ∧ va_D (AA ad sz) (wsM cI cL ad μ) ∧ WF μ ∧ GL (AA ad sz) U U.heap)
def QcX (D : va_G) (cI cL : ClassId) (ad : Nat → Nat) (r : Rs) (μ' : Mm) (sz : Nat) : Array Value → State → Outcome → State → Prop := fun _ st o t =>
  ∃ v, r = .inr v ∧ o = .returned v ∧ va_P D vwCl (wsM cI cL ad μ') t.heap ∧ WF μ' ∧ va_F (AA ad sz) st t
def XcX (D : va_G) (cI cL : ClassId) (ad : Nat → Nat) (r : Rs) (μ' : Mm) (sz : Nat) : String → State → State → Prop := fun E st t =>
  r = .inl E ∧ va_P D vwCl (wsM cI cL ad μ') t.heap ∧ WF μ' ∧ va_F (AA ad sz) st t
def QX (D : va_G) (cI cL : ClassId) (ad : Nat → Nat) (r : Rs) (μ' : Mm) (below : List Frame) (args : Array Value) (s : State) : State → Prop :=
  vx_MQ below (QcX D cI cL ad r μ' s.heap.size) (XcX D cI cL ad r μ' s.heap.size) args s (mcR r) (msR r) (AA ad s.heap.size)
def MetX (l : Launch) (y : MethodName) (b : ByteArray) (nL : Nat) (ret : Option FieldType) (d : Nat) (As : (Nat → Nat) → List Value) (μ : Mm) (r : Rs) (μ' : Mm) : Prop :=
  ∀ (D : va_G) (cI cL : ClassId) (ad : Nat → Nat) (sz : Nat), vx_Met l y (WSy y b nL ret) (rmA d (mcR r) (msR r)) (PcA D cI cL ad (As ad) μ sz) (QcX D cI cL ad r μ' sz) (XcX D cI cL ad r μ' sz) (mcR r) (msR r) (AA ad sz)
theorem D_wsM {A : Nat → Prop} {cI cL : ClassId} {ad : Nat → Nat} {μ μ' : Mm} (h : va_D A (wsM cI cL ad μ)) : va_D A (wsM cI cL ad μ') := by
  refine ⟨fun i j p q hp hq he => ?_, fun k q hq => ?_⟩
  · obtain ⟨h1, rfl⟩ := wsM_get hp
    obtain ⟨h2, rfl⟩ := wsM_get hq
    exact h.1 i j _ _ (wsM_at h1) (wsM_at h2) he
  · obtain ⟨h1, rfl⟩ := wsM_get hq
    exact h.2 k (ad k, ceM cI cL ad μ k) (wsM_at h1)
theorem D_AA {A : Nat → Prop} {cI cL : ClassId} {ad : Nat → Nat} {μ : Mm} {sz : Nat} (h : va_D A (wsM cI cL ad μ)) : va_D (AA ad sz) (wsM cI cL ad μ) := by
  refine ⟨h.1, fun k q hq => ?_⟩
  obtain ⟨h1, rfl⟩ := wsM_get hq
  exact Or.inl ⟨k, h1, rfl⟩
theorem AA_sub {A : Nat → Prop} {cI cL : ClassId} {ad : Nat → Nat} {μ : Mm} {sz sz' : Nat} (h : va_D A (wsM cI cL ad μ)) (hA : ∀ q, sz ≤ q → A q) (hz : sz ≤ sz') : ∀ q, AA ad sz' q → A q := by
  intro q hq
  rcases hq with ⟨k, hk, rfl⟩ | hq
  · exact h.2 k _ (wsM_at hk)
  · exact hA q (Nat.le_trans hz hq)
theorem PcA_blind {D : va_G} {cI cL : ClassId} {ad : Nat → Nat} {As : List Value} {μ : Mm} {sz : Nat} : FrameBlind (PcA D cI cL ad As μ sz) := fun a U g mk q => by
  obtain ⟨q0, q1, q2, q3, q4, q5, q6⟩ := q
  exact ⟨q0, q1, q2, va_K.moved (u := U) (U := U.calling g mk a) (Vm.Alike.refl U.vm) q3, q4, q5, GL.same (s := U) (U := U.calling g mk a) rfl q6⟩
section AWS
variable {p : Program} {l : Launch} {e : Env} {R : Room} {s : State} {m : MethodId} {args : Array Value} {below : List Frame} {meth : Method} {c : Code} {nL : Nat} {D : va_G} {cI cL : ClassId} {ad : Nat → Nat} {A : Nat → Prop} {cs sl : Nat} {Q : State → Prop} {pc : Nat} {lv lv' : List (Nat × Value)} {st : List Value} {μ : Mm} {own : String} {b : ByteArray} {ret : Option FieldType}
theorem pre_call (C : CX p l s m args meth c own b nL ret D cI cL A) {H : Heap} {locs : List Loc} (hR : RepA D cI cL ad A s.heap μ H locs) {As : List Value} : ∀ U : State, U.heap = H → s.WarmedH U.vm → PcA D cI cL ad As μ H.size As.toArray U := by
  obtain ⟨-, -, -, -, -, -, -, hK, hG, hA, -⟩ := C
  obtain ⟨hP, hD, hS, hw⟩ := hR
  intro U hU hW
  refine ⟨rfl, by rw [hU], by rw [hU]; exact hP, va_K.moved hW.alike hK, D_AA hD, hw, ?_⟩
  rw [hU]
  exact GL.warm hW (GL.narrow (AA_sub hD hA hS.1) (GL.kept hS.2.1 hG))
theorem aw_run (C : CX p l s m args meth c own b nL ret D cI cL A) {μ' : Mm} {v : Option Value} {rest : List Value} {a9 : Array Value}
    (hr : ∀ H locs ls, RepA D cI cL ad A s.heap μ H locs → lv_has ls nL lv → vx_Run p l e R s m args below meth c H locs cs sl 0 0 (F0 m pc ls st) rest (QcX D cI cL ad (.inr v) μ' H.size a9) (XcX D cI cL ad (.inr v) μ' H.size) (AA ad H.size))
    (kk : AW p l e R s m args below meth c nL D cI cL ad A cs sl Q (pc + 3) lv (v.toList ++ rest) μ') : AW p l e R s m args below meth c nL D cI cL ad A cs sl Q pc lv st μ := by
  obtain ⟨-, -, -, -, -, -, -, hK, hG, hA, -⟩ := C
  intro H locs ls hR hl T hT X
  rcases hr H locs ls hR hl T hT X with ⟨v', st₀, t, T', L, h0, X', hL, e1, e2, ⟨v2, hv2, hv, hP1, hwf, hz, hk⟩, st⟩ | ⟨q, st₀, t, T', L, E, ce, h0, X', hL, e1, e2, ⟨hh, -⟩, -⟩
  · cases hv2
    cases hv
    rw [h0] at hz hk
    obtain ⟨hP, hD, hS, hw⟩ := hR
    have hsub := AA_sub hD hA hS.1
    obtain ⟨t2, a1, b1⟩ := kk T'.heap (locs ++ L) ls ⟨by rw [e1]; exact hP1, D_wsM hD, ⟨Nat.le_trans hS.1 (by rw [e1]; exact hz), fun q h1 h2 => by rw [e1, hk q (Nat.lt_of_lt_of_le h1 hS.1) (fun z => h2 (hsub q z))]; exact hS.2.1 q h1 h2, fun q hq => by
      rcases List.mem_append.mp hq with h | h
      · exact hS.2.2 q h
      · exact hsub _ (hL q h)⟩, hwf⟩ hl T' rfl X'
    exact ⟨t2, st t2 a1, b1⟩
  · cases hh
end AWS
def OKV (y : MethodName) (Cn : String) (b : ByteArray) (nY : Nat) (r : Option FieldType) (n : Nat) : Prop := (Cond.instanceMethod y ∈ WS ∧ Cond.selects Cn y y ∈ WS ∧ Cond.initialized Cn ∈ WS ∧ Cond.code y b nY r ∈ WS) ∧ (y.cls = Cn ∧ y.cls ≠ "java/lang/invoke/MethodHandle" ∧ y.cls ≠ "java/lang/invoke/VarHandle" ∧ (parseMethodDescriptor y.desc).map (fun d => d.parameters.length) = some n)
def OKS (y : MethodName) (b : ByteArray) (nY : Nat) (r : Option FieldType) (n : Nat) : Prop := (Cond.static y ∈ WS ∧ Cond.initialized y.cls ∈ WS ∧ Cond.code y b nY r ∈ WS) ∧ (y.cls ≠ "java/lang/invoke/MethodHandle" ∧ y.cls ≠ "java/lang/invoke/VarHandle" ∧ (parseMethodDescriptor y.desc).map (fun d => d.parameters.length) = some n)
theorem WSy_sub {y : MethodName} {b : ByteArray} {nY : Nat} {r : Option FieldType} (h : Cond.code y b nY r ∈ WS) : ∀ w ∈ WSy y b nY r, w ∈ WS := fun w hw => (List.mem_cons.mp hw).elim (fun q => by rw [q]; exact h) id
section AWC
variable {p : Program} {l : Launch} {e : Env} {R : Room} {s : State} {m : MethodId} {args : Array Value} {below : List Frame} {meth : Method} {c : Code} {nL : Nat} {D : va_G} {cI cL : ClassId} {ad : Nat → Nat} {A : Nat → Prop} {cs sl : Nat} {Q : State → Prop} {pc : Nat} {lv lv' : List (Nat × Value)} {rest : List Value} {μ μ' : Mm} {own : String} {b : ByteArray} {ret : Option FieldType}
variable {y : MethodName} {Cn : String} {bY : ByteArray} {nY n idx dY a : Nat} {rY : Option FieldType} {As : (Nat → Nat) → List Value} {Bs : List Value} {v : Option Value} {r : Rs}
theorem run_V (C : CX p l s m args meth c own b nL ret D cI cL A) (hM : MetX l y bY nY rY dY As μ r μ') (ok : OKV y Cn bY nY rY n) (hlk : Cond.methodLink own idx y ∈ WS) {ci : Nat} {Tc : u_T} {Nc : Nat} (hk : kd a = (1, ci)) (hc : vwCl[ci]? = some (Cn, Tc, Nc)) (hAs : As ad = .ref (ad a) :: Bs) (hn : Bs.length = n)
    (hst : (rest.map fun v => v.category).sum ≤ 8) (hd : decode b pc = .ok (.invokevirtual idx, 3)) (hR : dY + 1 ≤ R.frames ∧ 8 + (nY + 11) + 31 * dY ≤ R.locals) (hf : cs + mcR r ≤ R.cells ∧ sl + msR r ≤ R.slots) :
    ∀ H locs ls, RepA D cI cL ad A s.heap μ H locs → lv_has ls nL lv → vx_Run p l e R s m args below meth c H locs cs sl (mcR r) (msR r) (F0 m pc ls (Bs.reverse ++ .ref (ad a) :: rest)) rest (QcX D cI cL ad r μ' H.size (Value.ref (ad a) :: Bs).toArray) (XcX D cI cL ad r μ' H.size) (AA ad H.size) := by
  intro H locs ls hRp hl
  obtain ⟨hx, hb, hml, hown, hts, hlo, hrt, hK, hG, hA, htr⟩ := id C
  obtain ⟨⟨o1, o2, o3, o4⟩, od⟩ := ok
  have hM' := hM D cI cL ad H.size
  rw [hAs] at hM'
  refine vx_runV (Ts := WS) (C := Cn) (n := n) ⟨hx, hb, hml, hown, hts⟩ hM' (cwV n hts (goodIn_WS (fun w hw => ?_)) rfl rfl rfl od hR) ⟨PcA_blind, va_recv hK hRp.1 hc (ws_obj hk), pre_call C hRp⟩ rfl hn hl.1 rfl (lv_room hst) hd hf
  rcases List.mem_append.mp hw with h | h
  · simp only [List.mem_cons, List.not_mem_nil, or_false] at h
    rcases h with rfl | rfl | rfl | rfl
    · exact hlk
    · exact o1
    · exact o2
    · exact o3
  · exact WSy_sub o4 w h
theorem run_S (C : CX p l s m args meth c own b nL ret D cI cL A) (hM : MetX l y bY nY rY dY As μ r μ') (ok : OKS y bY nY rY n) (hlk : Cond.methodLink own idx y ∈ WS) (hAs : As ad = Bs) (hn : Bs.length = n)
    (hst : (rest.map fun v => v.category).sum ≤ 8) (hd : decode b pc = .ok (.invokestatic idx, 3)) (hR : dY + 1 ≤ R.frames ∧ 8 + (nY + 11) + 31 * dY ≤ R.locals) (hf : cs + mcR r ≤ R.cells ∧ sl + msR r ≤ R.slots) :
    ∀ H locs ls, RepA D cI cL ad A s.heap μ H locs → lv_has ls nL lv → vx_Run p l e R s m args below meth c H locs cs sl (mcR r) (msR r) (F0 m pc ls (Bs.reverse ++ rest)) rest (QcX D cI cL ad r μ' H.size Bs.toArray) (XcX D cI cL ad r μ' H.size) (AA ad H.size) := by
  intro H locs ls hRp hl
  obtain ⟨hx, hb, hml, hown, hts, hlo, hrt, hK, hG, hA, htr⟩ := id C
  obtain ⟨⟨o1, o2, o3⟩, od⟩ := ok
  have hM' := hM D cI cL ad H.size
  rw [hAs] at hM'
  refine vx_runS (Ts := WS) (n := n) ⟨hx, hb, hml, hown, hts⟩ hM' (va_cwS n hts (goodIn_WS (fun w hw => ?_)) rfl rfl rfl od hR) ⟨PcA_blind, pre_call C hRp⟩ rfl hn hl.1 rfl (lv_room hst) hd hf
  rcases List.mem_append.mp hw with h | h
  · simp only [List.mem_cons, List.not_mem_nil, or_false] at h
    rcases h with rfl | rfl | rfl
    · exact hlk
    · exact o1
    · exact o2
  · exact WSy_sub o3 w h
/-- a call that returns -/
theorem aw_callV (C : CX p l s m args meth c own b nL ret D cI cL A) (hM : MetX l y bY nY rY dY As μ (.inr v) μ') (ok : OKV y Cn bY nY rY n) (hlk : Cond.methodLink own idx y ∈ WS) {ci : Nat} {Tc : u_T} {Nc : Nat} (hk : kd a = (1, ci)) (hc : vwCl[ci]? = some (Cn, Tc, Nc)) (hAs : As ad = .ref (ad a) :: Bs) (hn : Bs.length = n)
    (hst : (rest.map fun v => v.category).sum ≤ 8) (hd : decode b pc = .ok (.invokevirtual idx, 3)) (hR : dY + 1 ≤ R.frames ∧ 8 + (nY + 11) + 31 * dY ≤ R.locals) (hf : cs ≤ R.cells ∧ sl ≤ R.slots) {st0 : List Value} (hs0 : st0 = Bs.reverse ++ .ref (ad a) :: rest)
    (kk : AW p l e R s m args below meth c nL D cI cL ad A cs sl Q (pc + 3) lv (v.toList ++ rest) μ') : AW p l e R s m args below meth c nL D cI cL ad A cs sl Q pc lv st0 μ := by
  subst hs0
  exact aw_run C (run_V C hM ok hlk hk hc hAs hn hst hd hR hf) kk
theorem aw_callS (C : CX p l s m args meth c own b nL ret D cI cL A) (hM : MetX l y bY nY rY dY As μ (.inr v) μ') (ok : OKS y bY nY rY n) (hlk : Cond.methodLink own idx y ∈ WS) (hAs : As ad = Bs) (hn : Bs.length = n)
    (hst : (rest.map fun v => v.category).sum ≤ 8) (hd : decode b pc = .ok (.invokestatic idx, 3)) (hR : dY + 1 ≤ R.frames ∧ 8 + (nY + 11) + 31 * dY ≤ R.locals) (hf : cs ≤ R.cells ∧ sl ≤ R.slots) {st0 : List Value} (hs0 : st0 = Bs.reverse ++ rest)
    (kk : AW p l e R s m args below meth c nL D cI cL ad A cs sl Q (pc + 3) lv (v.toList ++ rest) μ') : AW p l e R s m args below meth c nL D cI cL ad A cs sl Q pc lv st0 μ := by
  subst hs0
  exact aw_run C (run_S C hM ok hlk hAs hn hst hd hR hf) kk
end AWC
end
section
theorem vp_in_0 : vp_in 0 1 := fun h => h.elim (fun q => absurd q (by decide)) (fun q => absurd q (by decide))
section AWI
variable {p : Program} {l : Launch} {e : Env} {R : Room} {s : State} {m : MethodId} {args : Array Value} {below : List Frame} {meth : Method} {c : Code} {nL : Nat} {D : va_G} {cI cL : ClassId} {ad : Nat → Nat} {A : Nat → Prop} {cs sl : Nat} {Q : State → Prop} {pc : Nat} {lv lv' : List (Nat × Value)} {st : List Value} {μ μ' : Mm} {own : String} {b : ByteArray} {ret : Option FieldType}
theorem aw_iconst (C : CX p l s m args meth c own b nL ret D cI cL A) {n : Int} {v : Int32} (hd : decode b pc = .ok (.iconst n, 1)) (hv : Int32.ofInt n = v) (k : AW p l e R s m args below meth c nL D cI cL ad A cs sl Q (pc + 1) lv (.int v :: st) μ) : AW p l e R s m args below meth c nL D cI cL ad A cs sl Q pc lv st μ := fun H locs ls hR hl => lv_iconst C.1 C.2.1 hd hv (k H locs ls hR hl)
theorem aw_bipush (C : CX p l s m args meth c own b nL ret D cI cL A) {n : Int} {v : Int32} (hd : decode b pc = .ok (.bipush n, 2)) (hv : (Int8.ofInt n).toInt32 = v) (k : AW p l e R s m args below meth c nL D cI cL ad A cs sl Q (pc + 2) lv (.int v :: st) μ) : AW p l e R s m args below meth c nL D cI cL ad A cs sl Q pc lv st μ := fun H locs ls hR hl => lv_bipush C.1 C.2.1 hd hv (k H locs ls hR hl)
theorem aw_sipush (C : CX p l s m args meth c own b nL ret D cI cL A) {n : Int} {v : Int32} (hd : decode b pc = .ok (.sipush n, 3)) (hv : (Int16.ofInt n).toInt32 = v) (k : AW p l e R s m args below meth c nL D cI cL ad A cs sl Q (pc + 3) lv (.int v :: st) μ) : AW p l e R s m args below meth c nL D cI cL ad A cs sl Q pc lv st μ := fun H locs ls hR hl => lv_sipush C.1 C.2.1 hd hv (k H locs ls hR hl)
theorem aw_iload_n (C : CX p l s m args meth c own b nL ret D cI cL A) {k4 : Fin 4} {i : Nat} {x : Int32} (hd : decode b pc = .ok (.iload_n k4, 1)) (hi : (k4 : Nat) = i) (j : Nat) (hj : lv[j]? = some (i, .int x)) (k : AW p l e R s m args below meth c nL D cI cL ad A cs sl Q (pc + 1) lv (.int x :: st) μ) : AW p l e R s m args below meth c nL D cI cL ad A cs sl Q pc lv st μ := fun H locs ls hR hl => lv_iload_n C.1 C.2.1 hd hi (lv_at hl j hj) (k H locs ls hR hl)
theorem aw_iload (C : CX p l s m args meth c own b nL ret D cI cL A) {i : Nat} {x : Int32} (hd : decode b pc = .ok (.iload i, 2)) (j : Nat) (hj : lv[j]? = some (i, .int x)) (k : AW p l e R s m args below meth c nL D cI cL ad A cs sl Q (pc + 2) lv (.int x :: st) μ) : AW p l e R s m args below meth c nL D cI cL ad A cs sl Q pc lv st μ := fun H locs ls hR hl => lv_iload C.1 C.2.1 hd (lv_at hl j hj) (k H locs ls hR hl)
theorem aw_aload_n (C : CX p l s m args meth c own b nL ret D cI cL A) {k4 : Fin 4} {i : Nat} {x : Nat} (hd : decode b pc = .ok (.aload_n k4, 1)) (hi : (k4 : Nat) = i) (j : Nat) (hj : lv[j]? = some (i, .ref x)) (k : AW p l e R s m args below meth c nL D cI cL ad A cs sl Q (pc + 1) lv (.ref x :: st) μ) : AW p l e R s m args below meth c nL D cI cL ad A cs sl Q pc lv st μ := fun H locs ls hR hl => lv_aload_n C.1 C.2.1 hd hi (lv_at hl j hj) (k H locs ls hR hl)
theorem aw_aload (C : CX p l s m args meth c own b nL ret D cI cL A) {i : Nat} {x : Nat} (hd : decode b pc = .ok (.aload i, 2)) (j : Nat) (hj : lv[j]? = some (i, .ref x)) (k : AW p l e R s m args below meth c nL D cI cL ad A cs sl Q (pc + 2) lv (.ref x :: st) μ) : AW p l e R s m args below meth c nL D cI cL ad A cs sl Q pc lv st μ := fun H locs ls hR hl => lv_aload C.1 C.2.1 hd (lv_at hl j hj) (k H locs ls hR hl)
theorem aw_lload_n (C : CX p l s m args meth c own b nL ret D cI cL A) {k4 : Fin 4} {i : Nat} {x : Int64} (hd : decode b pc = .ok (.lload_n k4, 1)) (hi : (k4 : Nat) = i) (j : Nat) (hj : lv[j]? = some (i, .long x)) (k : AW p l e R s m args below meth c nL D cI cL ad A cs sl Q (pc + 1) lv (.long x :: st) μ) : AW p l e R s m args below meth c nL D cI cL ad A cs sl Q pc lv st μ := fun H locs ls hR hl => lv_lload_n C.1 C.2.1 hd hi (lv_at hl j hj) (k H locs ls hR hl)
theorem aw_dload (C : CX p l s m args meth c own b nL ret D cI cL A) {i : Nat} {x : UInt64} (hd : decode b pc = .ok (.dload i, 2)) (j : Nat) (hj : lv[j]? = some (i, .double x)) (k : AW p l e R s m args below meth c nL D cI cL ad A cs sl Q (pc + 2) lv (.double x :: st) μ) : AW p l e R s m args below meth c nL D cI cL ad A cs sl Q pc lv st μ := fun H locs ls hR hl => lv_dload C.1 C.2.1 hd (lv_at hl j hj) (k H locs ls hR hl)
theorem aw_iadd (C : CX p l s m args meth c own b nL ret D cI cL A) {x y : Int32} (hd : decode b pc = .ok (.iadd, 1)) (k : AW p l e R s m args below meth c nL D cI cL ad A cs sl Q (pc + 1) lv (.int (x + y) :: st) μ) : AW p l e R s m args below meth c nL D cI cL ad A cs sl Q pc lv (.int y :: .int x :: st) μ := fun H locs ls hR hl => lv_iadd C.1 C.2.1 hd (k H locs ls hR hl)
theorem aw_isub (C : CX p l s m args meth c own b nL ret D cI cL A) {x y : Int32} (hd : decode b pc = .ok (.isub, 1)) (k : AW p l e R s m args below meth c nL D cI cL ad A cs sl Q (pc + 1) lv (.int (x - y) :: st) μ) : AW p l e R s m args below meth c nL D cI cL ad A cs sl Q pc lv (.int y :: .int x :: st) μ := fun H locs ls hR hl => lv_isub C.1 C.2.1 hd (k H locs ls hR hl)
theorem aw_imul (C : CX p l s m args meth c own b nL ret D cI cL A) {x y : Int32} (hd : decode b pc = .ok (.imul, 1)) (k : AW p l e R s m args below meth c nL D cI cL ad A cs sl Q (pc + 1) lv (.int (x * y) :: st) μ) : AW p l e R s m args below meth c nL D cI cL ad A cs sl Q pc lv (.int y :: .int x :: st) μ := fun H locs ls hR hl => lv_imul C.1 C.2.1 hd (k H locs ls hR hl)
theorem aw_iand (C : CX p l s m args meth c own b nL ret D cI cL A) {x y : Int32} (hd : decode b pc = .ok (.iand, 1)) (k : AW p l e R s m args below meth c nL D cI cL ad A cs sl Q (pc + 1) lv (.int (x &&& y) :: st) μ) : AW p l e R s m args below meth c nL D cI cL ad A cs sl Q pc lv (.int y :: .int x :: st) μ := fun H locs ls hR hl => lv_iand C.1 C.2.1 hd (k H locs ls hR hl)
theorem aw_ior (C : CX p l s m args meth c own b nL ret D cI cL A) {x y : Int32} (hd : decode b pc = .ok (.ior, 1)) (k : AW p l e R s m args below meth c nL D cI cL ad A cs sl Q (pc + 1) lv (.int (x ||| y) :: st) μ) : AW p l e R s m args below meth c nL D cI cL ad A cs sl Q pc lv (.int y :: .int x :: st) μ := fun H locs ls hR hl => lv_ior C.1 C.2.1 hd (k H locs ls hR hl)
theorem aw_ixor (C : CX p l s m args meth c own b nL ret D cI cL A) {x y : Int32} (hd : decode b pc = .ok (.ixor, 1)) (k : AW p l e R s m args below meth c nL D cI cL ad A cs sl Q (pc + 1) lv (.int (x ^^^ y) :: st) μ) : AW p l e R s m args below meth c nL D cI cL ad A cs sl Q pc lv (.int y :: .int x :: st) μ := fun H locs ls hR hl => lv_ixor C.1 C.2.1 hd (k H locs ls hR hl)
theorem aw_ishl (C : CX p l s m args meth c own b nL ret D cI cL A) {x y : Int32} (hd : decode b pc = .ok (.ishl, 1)) (k : AW p l e R s m args below meth c nL D cI cL ad A cs sl Q (pc + 1) lv (.int (x <<< (y &&& 31)) :: st) μ) : AW p l e R s m args below meth c nL D cI cL ad A cs sl Q pc lv (.int y :: .int x :: st) μ := fun H locs ls hR hl => lv_ishl C.1 C.2.1 hd (k H locs ls hR hl)
theorem aw_ishr (C : CX p l s m args meth c own b nL ret D cI cL A) {x y : Int32} (hd : decode b pc = .ok (.ishr, 1)) (k : AW p l e R s m args below meth c nL D cI cL ad A cs sl Q (pc + 1) lv (.int (x >>> (y &&& 31)) :: st) μ) : AW p l e R s m args below meth c nL D cI cL ad A cs sl Q pc lv (.int y :: .int x :: st) μ := fun H locs ls hR hl => lv_ishr C.1 C.2.1 hd (k H locs ls hR hl)
theorem aw_iushr (C : CX p l s m args meth c own b nL ret D cI cL A) {x y : Int32} (hd : decode b pc = .ok (.iushr, 1)) (k : AW p l e R s m args below meth c nL D cI cL ad A cs sl Q (pc + 1) lv (.int ((x.toUInt32 >>> (y.toUInt32 &&& Int32.toUInt32 31)).toInt32) :: st) μ) : AW p l e R s m args below meth c nL D cI cL ad A cs sl Q pc lv (.int y :: .int x :: st) μ := fun H locs ls hR hl => lv_iushr C.1 C.2.1 hd rfl (k H locs ls hR hl)
theorem aw_idiv (C : CX p l s m args meth c own b nL ret D cI cL A) {x y : Int32} (hd : decode b pc = .ok (.idiv, 1)) (hne : ¬ y = 0) (k : AW p l e R s m args below meth c nL D cI cL ad A cs sl Q (pc + 1) lv (.int (x / y) :: st) μ) : AW p l e R s m args below meth c nL D cI cL ad A cs sl Q pc lv (.int y :: .int x :: st) μ := fun H locs ls hR hl => lv_idiv C.1 C.2.1 hd hne (k H locs ls hR hl)
theorem aw_irem (C : CX p l s m args meth c own b nL ret D cI cL A) {x y : Int32} (hd : decode b pc = .ok (.irem, 1)) (hne : ¬ y = 0) (k : AW p l e R s m args below meth c nL D cI cL ad A cs sl Q (pc + 1) lv (.int (x - x / y * y) :: st) μ) : AW p l e R s m args below meth c nL D cI cL ad A cs sl Q pc lv (.int y :: .int x :: st) μ := fun H locs ls hR hl => lv_irem C.1 C.2.1 hd hne (k H locs ls hR hl)
theorem aw_ladd (C : CX p l s m args meth c own b nL ret D cI cL A) {x y : Int64} (hd : decode b pc = .ok (.ladd, 1)) (k : AW p l e R s m args below meth c nL D cI cL ad A cs sl Q (pc + 1) lv (.long (x + y) :: st) μ) : AW p l e R s m args below meth c nL D cI cL ad A cs sl Q pc lv (.long y :: .long x :: st) μ := fun H locs ls hR hl => lv_ladd C.1 C.2.1 hd (k H locs ls hR hl)
theorem aw_lmul (C : CX p l s m args meth c own b nL ret D cI cL A) {x y : Int64} (hd : decode b pc = .ok (.lmul, 1)) (k : AW p l e R s m args below meth c nL D cI cL ad A cs sl Q (pc + 1) lv (.long (x * y) :: st) μ) : AW p l e R s m args below meth c nL D cI cL ad A cs sl Q pc lv (.long y :: .long x :: st) μ := fun H locs ls hR hl => lv_lmul C.1 C.2.1 hd (k H locs ls hR hl)
theorem aw_i2l (C : CX p l s m args meth c own b nL ret D cI cL A) {x : Int32} (hd : decode b pc = .ok (.i2l, 1)) (k : AW p l e R s m args below meth c nL D cI cL ad A cs sl Q (pc + 1) lv (.long x.toInt64 :: st) μ) : AW p l e R s m args below meth c nL D cI cL ad A cs sl Q pc lv (.int x :: st) μ := fun H locs ls hR hl => lv_i2l C.1 C.2.1 hd rfl (k H locs ls hR hl)
theorem aw_i2d (C : CX p l s m args meth c own b nL ret D cI cL A) {x : Int32} (hd : decode b pc = .ok (.i2d, 1)) (k : AW p l e R s m args below meth c nL D cI cL ad A cs sl Q (pc + 1) lv (.double (FP.i2d x) :: st) μ) : AW p l e R s m args below meth c nL D cI cL ad A cs sl Q pc lv (.int x :: st) μ := fun H locs ls hR hl => lv_i2d C.1 C.2.1 hd (k H locs ls hR hl)
theorem aw_lcmp (C : CX p l s m args meth c own b nL ret D cI cL A) {x y : Int64} (hd : decode b pc = .ok (.lcmp, 1)) (k : AW p l e R s m args below meth c nL D cI cL ad A cs sl Q (pc + 1) lv (.int (lg_cmp x y) :: st) μ) : AW p l e R s m args below meth c nL D cI cL ad A cs sl Q pc lv (.long y :: .long x :: st) μ := fun H locs ls hR hl => W.lcmp C.1 C.2.1 hd (k H locs ls hR hl)
theorem aw_dcmp (C : CX p l s m args meth c own b nL ret D cI cL A) {x y : UInt64} {op : CmpOp} (hd : decode b pc = .ok (.dcmp op, 1)) (k : AW p l e R s m args below meth c nL D cI cL ad A cs sl Q (pc + 1) lv (.int (Op.cmpValue (FP.dcmp x y) op) :: st) μ) : AW p l e R s m args below meth c nL D cI cL ad A cs sl Q pc lv (.double y :: .double x :: st) μ := fun H locs ls hR hl => lv_dcmp C.1 C.2.1 hd (k H locs ls hR hl)
theorem aw_ddiv (C : CX p l s m args meth c own b nL ret D cI cL A) {x y : UInt64} (hd : decode b pc = .ok (.ddiv, 1)) (hne : vf_n64 (FP.ddiv x y)) (k : AW p l e R s m args below meth c nL D cI cL ad A cs sl Q (pc + 1) lv (.double (FP.ddiv x y) :: st) μ) : AW p l e R s m args below meth c nL D cI cL ad A cs sl Q pc lv (.double y :: .double x :: st) μ := fun H locs ls hR hl => lv_ddiv C.1 C.2.1 hd hne (k H locs ls hR hl)
theorem aw_dmul (C : CX p l s m args meth c own b nL ret D cI cL A) {x y : UInt64} (hd : decode b pc = .ok (.dmul, 1)) (hne : vf_n64 (FP.dmul x y)) (k : AW p l e R s m args below meth c nL D cI cL ad A cs sl Q (pc + 1) lv (.double (FP.dmul x y) :: st) μ) : AW p l e R s m args below meth c nL D cI cL ad A cs sl Q pc lv (.double y :: .double x :: st) μ := fun H locs ls hR hl => lv_dmul C.1 C.2.1 hd hne (k H locs ls hR hl)
theorem aw_dconst1 (C : CX p l s m args meth c own b nL ret D cI cL A)  (hd : decode b pc = .ok (.dconst 1, 1)) (k : AW p l e R s m args below meth c nL D cI cL ad A cs sl Q (pc + 1) lv (.double FP.dconst1 :: st) μ) : AW p l e R s m args below meth c nL D cI cL ad A cs sl Q pc lv st μ := fun H locs ls hR hl => lv_dconst1 C.1 C.2.1 hd (k H locs ls hR hl)
theorem aw_dup (C : CX p l s m args meth c own b nL ret D cI cL A) {v : Value} (hd : decode b pc = .ok (.dup, 1)) (hv : v.category = 1) (k : AW p l e R s m args below meth c nL D cI cL ad A cs sl Q (pc + 1) lv (v :: v :: st) μ) : AW p l e R s m args below meth c nL D cI cL ad A cs sl Q pc lv (v :: st) μ := fun H locs ls hR hl => lv_dup C.1 C.2.1 hd hv (k H locs ls hR hl)
theorem aw_pop (C : CX p l s m args meth c own b nL ret D cI cL A) {v : Value} (hd : decode b pc = .ok (.pop, 1)) (hv : v.category = 1) (k : AW p l e R s m args below meth c nL D cI cL ad A cs sl Q (pc + 1) lv st μ) : AW p l e R s m args below meth c nL D cI cL ad A cs sl Q pc lv (v :: st) μ := fun H locs ls hR hl => lv_pop C.1 C.2.1 hd hv (k H locs ls hR hl)
theorem aw_dup_x1 (C : CX p l s m args meth c own b nL ret D cI cL A) {v w : Value} (hd : decode b pc = .ok (.dup_x1, 1)) (hv : v.category = 1) (hw : w.category = 1) (k : AW p l e R s m args below meth c nL D cI cL ad A cs sl Q (pc + 1) lv (v :: w :: v :: st) μ) : AW p l e R s m args below meth c nL D cI cL ad A cs sl Q pc lv (v :: w :: st) μ := fun H locs ls hR hl => lv_dup_x1 C.1 C.2.1 hd hv hw (k H locs ls hR hl)
theorem aw_dup2 (C : CX p l s m args meth c own b nL ret D cI cL A) {v w : Value} (hd : decode b pc = .ok (.dup2, 1)) (hv : v.category = 1) (hw : w.category = 1) (k : AW p l e R s m args below meth c nL D cI cL ad A cs sl Q (pc + 1) lv (v :: w :: v :: w :: st) μ) : AW p l e R s m args below meth c nL D cI cL ad A cs sl Q pc lv (v :: w :: st) μ := fun H locs ls hR hl => lv_dup2_11 C.1 C.2.1 hd hv hw (k H locs ls hR hl)
theorem aw_ldc (C : CX p l s m args meth c own b nL ret D cI cL A) {i : Nat} {v : Int32} (hd : decode b pc = .ok (.ldc i, 2)) (hw : Cond.constant own i v ∈ WS) (k : AW p l e R s m args below meth c nL D cI cL ad A cs sl Q (pc + 2) lv (.int v :: st) μ) : AW p l e R s m args below meth c nL D cI cL ad A cs sl Q pc lv st μ := fun H locs ls hR hl => lv_ldc C.1 C.2.1 C.2.2.2.1 (C.2.2.2.2.1 _ hw) hd (k H locs ls hR hl)
theorem aw_ldc_w (C : CX p l s m args meth c own b nL ret D cI cL A) {i : Nat} {v : Int32} (hd : decode b pc = .ok (.ldc_w i, 3)) (hw : Cond.constant own i v ∈ WS) (k : AW p l e R s m args below meth c nL D cI cL ad A cs sl Q (pc + 3) lv (.int v :: st) μ) : AW p l e R s m args below meth c nL D cI cL ad A cs sl Q pc lv st μ := fun H locs ls hR hl => lv_ldcw C.1 C.2.1 C.2.2.2.1 (C.2.2.2.2.1 _ hw) hd (k H locs ls hR hl)
theorem aw_ldc2_w (C : CX p l s m args meth c own b nL ret D cI cL A) {i : Nat} {v : Int64} (hd : decode b pc = .ok (.ldc2_w i, 3)) (hw : Cond.constantLong own i v ∈ WS) (k : AW p l e R s m args below meth c nL D cI cL ad A cs sl Q (pc + 3) lv (.long v :: st) μ) : AW p l e R s m args below meth c nL D cI cL ad A cs sl Q pc lv st μ := fun H locs ls hR hl => lv_ldc2 C.1 C.2.1 C.2.2.2.1 (C.2.2.2.2.1 _ hw) hd (k H locs ls hR hl)
theorem aw_istore (C : CX p l s m args meth c own b nL ret D cI cL A) {i : Nat} {x v : Int32} (hd : decode b pc = .ok (.istore i, 2)) (hn : i < nL) (hx : x = v) (hl' : (i, Value.int x) :: lv.filter (fun q => !(q.1 == i) && !(q.1 + 1 == i && q.2.category == 2)) = lv') (k : AW p l e R s m args below meth c nL D cI cL ad A cs sl Q (pc + 2) lv' st μ) : AW p l e R s m args below meth c nL D cI cL ad A cs sl Q pc lv (.int v :: st) μ := fun H locs ls hR hl => by subst hx; exact lv_istore C.1 C.2.1 hd hl hn hl' (fun ls' h' => k H locs ls' hR h')
theorem aw_astore (C : CX p l s m args meth c own b nL ret D cI cL A) {i : Nat} {x v : Nat} (hd : decode b pc = .ok (.astore i, 2)) (hn : i < nL) (hx : x = v) (hl' : (i, Value.ref x) :: lv.filter (fun q => !(q.1 == i) && !(q.1 + 1 == i && q.2.category == 2)) = lv') (k : AW p l e R s m args below meth c nL D cI cL ad A cs sl Q (pc + 2) lv' st μ) : AW p l e R s m args below meth c nL D cI cL ad A cs sl Q pc lv (.ref v :: st) μ := fun H locs ls hR hl => by subst hx; exact lv_astore C.1 C.2.1 hd hl hn hl' (fun ls' h' => k H locs ls' hR h')
theorem aw_lstore (C : CX p l s m args meth c own b nL ret D cI cL A) {i : Nat} {x v : Int64} (hd : decode b pc = .ok (.lstore i, 2)) (hn : i + 1 < nL) (hx : x = v) (hl' : (i, Value.long x) :: lv.filter (fun q => !(q.1 == i) && (!(q.1 == i + 1) && !(q.1 + 1 == i && q.2.category == 2))) = lv') (k : AW p l e R s m args below meth c nL D cI cL ad A cs sl Q (pc + 2) lv' st μ) : AW p l e R s m args below meth c nL D cI cL ad A cs sl Q pc lv (.long v :: st) μ := fun H locs ls hR hl => by subst hx; exact lv_lstore C.1 C.2.1 hd hl hn hl' (fun ls' h' => k H locs ls' hR h')
theorem aw_dstore (C : CX p l s m args meth c own b nL ret D cI cL A) {i : Nat} {x v : UInt64} (hd : decode b pc = .ok (.dstore i, 2)) (hn : i + 1 < nL) (hx : x = v) (hl' : (i, Value.double x) :: lv.filter (fun q => !(q.1 == i) && (!(q.1 == i + 1) && !(q.1 + 1 == i && q.2.category == 2))) = lv') (k : AW p l e R s m args below meth c nL D cI cL ad A cs sl Q (pc + 2) lv' st μ) : AW p l e R s m args below meth c nL D cI cL ad A cs sl Q pc lv (.double v :: st) μ := fun H locs ls hR hl => by subst hx; exact lv_dstore C.1 C.2.1 hd hl hn hl' (fun ls' h' => k H locs ls' hR h')
theorem aw_istore_n (C : CX p l s m args meth c own b nL ret D cI cL A) {k4 : Fin 4} {i : Nat} {x v : Int32} (hd : decode b pc = .ok (.istore_n k4, 1)) (hi : (k4 : Nat) = i) (hn : i < nL) (hx : x = v) (hl' : (i, Value.int x) :: lv.filter (fun q => !(q.1 == i) && !(q.1 + 1 == i && q.2.category == 2)) = lv') (k : AW p l e R s m args below meth c nL D cI cL ad A cs sl Q (pc + 1) lv' st μ) : AW p l e R s m args below meth c nL D cI cL ad A cs sl Q pc lv (.int v :: st) μ := fun H locs ls hR hl => by subst hx; exact lv_istore_n C.1 C.2.1 hd hi hl hn hl' (fun ls' h' => k H locs ls' hR h')
theorem aw_astore_n (C : CX p l s m args meth c own b nL ret D cI cL A) {k4 : Fin 4} {i : Nat} {x v : Nat} (hd : decode b pc = .ok (.astore_n k4, 1)) (hi : (k4 : Nat) = i) (hn : i < nL) (hx : x = v) (hl' : (i, Value.ref x) :: lv.filter (fun q => !(q.1 == i) && !(q.1 + 1 == i && q.2.category == 2)) = lv') (k : AW p l e R s m args below meth c nL D cI cL ad A cs sl Q (pc + 1) lv' st μ) : AW p l e R s m args below meth c nL D cI cL ad A cs sl Q pc lv (.ref v :: st) μ := fun H locs ls hR hl => by subst hx; exact lv_astore_n C.1 C.2.1 hd hi hl hn hl' (fun ls' h' => k H locs ls' hR h')
theorem aw_lstore_n (C : CX p l s m args meth c own b nL ret D cI cL A) {k4 : Fin 4} {i : Nat} {x v : Int64} (hd : decode b pc = .ok (.lstore_n k4, 1)) (hi : (k4 : Nat) = i) (hn : i + 1 < nL) (hx : x = v) (hl' : (i, Value.long x) :: lv.filter (fun q => !(q.1 == i) && (!(q.1 == i + 1) && !(q.1 + 1 == i && q.2.category == 2))) = lv') (k : AW p l e R s m args below meth c nL D cI cL ad A cs sl Q (pc + 1) lv' st μ) : AW p l e R s m args below meth c nL D cI cL ad A cs sl Q pc lv (.long v :: st) μ := fun H locs ls hR hl => by subst hx; exact lv_lstore_n C.1 C.2.1 hd hi hl hn hl' (fun ls' h' => k H locs ls' hR h')
theorem aw_dstore_n (C : CX p l s m args meth c own b nL ret D cI cL A) {k4 : Fin 4} {i : Nat} {x v : UInt64} (hd : decode b pc = .ok (.dstore_n k4, 1)) (hi : (k4 : Nat) = i) (hn : i + 1 < nL) (hx : x = v) (hl' : (i, Value.double x) :: lv.filter (fun q => !(q.1 == i) && (!(q.1 == i + 1) && !(q.1 + 1 == i && q.2.category == 2))) = lv') (k : AW p l e R s m args below meth c nL D cI cL ad A cs sl Q (pc + 1) lv' st μ) : AW p l e R s m args below meth c nL D cI cL ad A cs sl Q pc lv (.double v :: st) μ := fun H locs ls hR hl => by subst hx; exact lv_dstore_n C.1 C.2.1 hd hi hl hn hl' (fun ls' h' => k H locs ls' hR h')
theorem aw_iinc (C : CX p l s m args meth c own b nL ret D cI cL A) {i : Nat} {n : Int} {x v : Int32} (hd : decode b pc = .ok (.iinc i n, 3)) (j : Nat) (hj : lv[j]? = some (i, .int x)) (hn : i < nL) (hv : v = x + Int32.ofInt n) (hl' : (i, Value.int v) :: lv.filter (fun q => !(q.1 == i) && !(q.1 + 1 == i && q.2.category == 2)) = lv') (k : AW p l e R s m args below meth c nL D cI cL ad A cs sl Q (pc + 3) lv' st μ) : AW p l e R s m args below meth c nL D cI cL ad A cs sl Q pc lv st μ := fun H locs ls hR hl => lv_iinc C.1 C.2.1 hd hl hj hv.symm hn hl' (fun ls' h' => k H locs ls' hR h')
theorem aw_icmp_eq (C : CX p l s m args meth c own b nL ret D cI cL A) {x y : Int32} {off : Int} (t : Nat) (hd : decode b pc = .ok (.if_icmp .eq off, 3)) (ht : (pc : Int) + off = (t : Int)) (kt : x = y → AW p l e R s m args below meth c nL D cI cL ad A cs sl Q t lv st μ) (kf : ¬ (x = y) → AW p l e R s m args below meth c nL D cI cL ad A cs sl Q (pc + 3) lv st μ) : AW p l e R s m args below meth c nL D cI cL ad A cs sl Q pc lv (.int y :: .int x :: st) μ := fun H locs ls hR hl => lv_icmp_eq C.1 C.2.1 hd ht (fun q => kt q H locs ls hR hl) (fun q => kf q H locs ls hR hl)
theorem aw_icmp_ne (C : CX p l s m args meth c own b nL ret D cI cL A) {x y : Int32} {off : Int} (t : Nat) (hd : decode b pc = .ok (.if_icmp .ne off, 3)) (ht : (pc : Int) + off = (t : Int)) (kt : ¬ x = y → AW p l e R s m args below meth c nL D cI cL ad A cs sl Q t lv st μ) (kf : x = y → AW p l e R s m args below meth c nL D cI cL ad A cs sl Q (pc + 3) lv st μ) : AW p l e R s m args below meth c nL D cI cL ad A cs sl Q pc lv (.int y :: .int x :: st) μ := fun H locs ls hR hl => lv_icmp_ne C.1 C.2.1 hd ht (fun q => kt q H locs ls hR hl) (fun q => kf q H locs ls hR hl)
theorem aw_icmp_lt (C : CX p l s m args meth c own b nL ret D cI cL A) {x y : Int32} {off : Int} (t : Nat) (hd : decode b pc = .ok (.if_icmp .lt off, 3)) (ht : (pc : Int) + off = (t : Int)) (kt : x < y → AW p l e R s m args below meth c nL D cI cL ad A cs sl Q t lv st μ) (kf : ¬ (x < y) → AW p l e R s m args below meth c nL D cI cL ad A cs sl Q (pc + 3) lv st μ) : AW p l e R s m args below meth c nL D cI cL ad A cs sl Q pc lv (.int y :: .int x :: st) μ := fun H locs ls hR hl => lv_icmp_lt C.1 C.2.1 hd ht (fun q => kt q H locs ls hR hl) (fun q => kf q H locs ls hR hl)
theorem aw_icmp_ge (C : CX p l s m args meth c own b nL ret D cI cL A) {x y : Int32} {off : Int} (t : Nat) (hd : decode b pc = .ok (.if_icmp .ge off, 3)) (ht : (pc : Int) + off = (t : Int)) (kt : y ≤ x → AW p l e R s m args below meth c nL D cI cL ad A cs sl Q t lv st μ) (kf : ¬ (y ≤ x) → AW p l e R s m args below meth c nL D cI cL ad A cs sl Q (pc + 3) lv st μ) : AW p l e R s m args below meth c nL D cI cL ad A cs sl Q pc lv (.int y :: .int x :: st) μ := fun H locs ls hR hl => lv_icmp_ge C.1 C.2.1 hd ht (fun q => kt q H locs ls hR hl) (fun q => kf q H locs ls hR hl)
theorem aw_icmp_gt (C : CX p l s m args meth c own b nL ret D cI cL A) {x y : Int32} {off : Int} (t : Nat) (hd : decode b pc = .ok (.if_icmp .gt off, 3)) (ht : (pc : Int) + off = (t : Int)) (kt : y < x → AW p l e R s m args below meth c nL D cI cL ad A cs sl Q t lv st μ) (kf : ¬ (y < x) → AW p l e R s m args below meth c nL D cI cL ad A cs sl Q (pc + 3) lv st μ) : AW p l e R s m args below meth c nL D cI cL ad A cs sl Q pc lv (.int y :: .int x :: st) μ := fun H locs ls hR hl => lv_icmp_gt C.1 C.2.1 hd ht (fun q => kt q H locs ls hR hl) (fun q => kf q H locs ls hR hl)
theorem aw_icmp_le (C : CX p l s m args meth c own b nL ret D cI cL A) {x y : Int32} {off : Int} (t : Nat) (hd : decode b pc = .ok (.if_icmp .le off, 3)) (ht : (pc : Int) + off = (t : Int)) (kt : x ≤ y → AW p l e R s m args below meth c nL D cI cL ad A cs sl Q t lv st μ) (kf : ¬ (x ≤ y) → AW p l e R s m args below meth c nL D cI cL ad A cs sl Q (pc + 3) lv st μ) : AW p l e R s m args below meth c nL D cI cL ad A cs sl Q pc lv (.int y :: .int x :: st) μ := fun H locs ls hR hl => lv_icmp_le C.1 C.2.1 hd ht (fun q => kt q H locs ls hR hl) (fun q => kf q H locs ls hR hl)
theorem aw_if_eq (C : CX p l s m args meth c own b nL ret D cI cL A) {x : Int32} {off : Int} (t : Nat) (hd : decode b pc = .ok (.ifCond .eq off, 3)) (ht : (pc : Int) + off = (t : Int)) (kt : x = 0 → AW p l e R s m args below meth c nL D cI cL ad A cs sl Q t lv st μ) (kf : ¬ (x = 0) → AW p l e R s m args below meth c nL D cI cL ad A cs sl Q (pc + 3) lv st μ) : AW p l e R s m args below meth c nL D cI cL ad A cs sl Q pc lv (.int x :: st) μ := fun H locs ls hR hl => lv_if_eq C.1 C.2.1 hd ht (fun q => kt q H locs ls hR hl) (fun q => kf q H locs ls hR hl)
theorem aw_if_ne (C : CX p l s m args meth c own b nL ret D cI cL A) {x : Int32} {off : Int} (t : Nat) (hd : decode b pc = .ok (.ifCond .ne off, 3)) (ht : (pc : Int) + off = (t : Int)) (kt : ¬ x = 0 → AW p l e R s m args below meth c nL D cI cL ad A cs sl Q t lv st μ) (kf : x = 0 → AW p l e R s m args below meth c nL D cI cL ad A cs sl Q (pc + 3) lv st μ) : AW p l e R s m args below meth c nL D cI cL ad A cs sl Q pc lv (.int x :: st) μ := fun H locs ls hR hl => lv_if_ne C.1 C.2.1 hd ht (fun q => kt q H locs ls hR hl) (fun q => kf q H locs ls hR hl)
theorem aw_if_lt (C : CX p l s m args meth c own b nL ret D cI cL A) {x : Int32} {off : Int} (t : Nat) (hd : decode b pc = .ok (.ifCond .lt off, 3)) (ht : (pc : Int) + off = (t : Int)) (kt : x < 0 → AW p l e R s m args below meth c nL D cI cL ad A cs sl Q t lv st μ) (kf : ¬ (x < 0) → AW p l e R s m args below meth c nL D cI cL ad A cs sl Q (pc + 3) lv st μ) : AW p l e R s m args below meth c nL D cI cL ad A cs sl Q pc lv (.int x :: st) μ := fun H locs ls hR hl => lv_if_lt C.1 C.2.1 hd ht (fun q => kt q H locs ls hR hl) (fun q => kf q H locs ls hR hl)
theorem aw_if_ge (C : CX p l s m args meth c own b nL ret D cI cL A) {x : Int32} {off : Int} (t : Nat) (hd : decode b pc = .ok (.ifCond .ge off, 3)) (ht : (pc : Int) + off = (t : Int)) (kt : 0 ≤ x → AW p l e R s m args below meth c nL D cI cL ad A cs sl Q t lv st μ) (kf : ¬ (0 ≤ x) → AW p l e R s m args below meth c nL D cI cL ad A cs sl Q (pc + 3) lv st μ) : AW p l e R s m args below meth c nL D cI cL ad A cs sl Q pc lv (.int x :: st) μ := fun H locs ls hR hl => lv_if_ge C.1 C.2.1 hd ht (fun q => kt q H locs ls hR hl) (fun q => kf q H locs ls hR hl)
theorem aw_if_gt (C : CX p l s m args meth c own b nL ret D cI cL A) {x : Int32} {off : Int} (t : Nat) (hd : decode b pc = .ok (.ifCond .gt off, 3)) (ht : (pc : Int) + off = (t : Int)) (kt : 0 < x → AW p l e R s m args below meth c nL D cI cL ad A cs sl Q t lv st μ) (kf : ¬ (0 < x) → AW p l e R s m args below meth c nL D cI cL ad A cs sl Q (pc + 3) lv st μ) : AW p l e R s m args below meth c nL D cI cL ad A cs sl Q pc lv (.int x :: st) μ := fun H locs ls hR hl => lv_if_gt C.1 C.2.1 hd ht (fun q => kt q H locs ls hR hl) (fun q => kf q H locs ls hR hl)
theorem aw_if_le (C : CX p l s m args meth c own b nL ret D cI cL A) {x : Int32} {off : Int} (t : Nat) (hd : decode b pc = .ok (.ifCond .le off, 3)) (ht : (pc : Int) + off = (t : Int)) (kt : x ≤ 0 → AW p l e R s m args below meth c nL D cI cL ad A cs sl Q t lv st μ) (kf : ¬ (x ≤ 0) → AW p l e R s m args below meth c nL D cI cL ad A cs sl Q (pc + 3) lv st μ) : AW p l e R s m args below meth c nL D cI cL ad A cs sl Q pc lv (.int x :: st) μ := fun H locs ls hR hl => lv_if_le C.1 C.2.1 hd ht (fun q => kt q H locs ls hR hl) (fun q => kf q H locs ls hR hl)
theorem aw_goto (C : CX p l s m args meth c own b nL ret D cI cL A) {off : Int} (t : Nat) (hd : decode b pc = .ok (.goto off, 3)) (ht : (pc : Int) + off = (t : Int)) (k : AW p l e R s m args below meth c nL D cI cL ad A cs sl Q t lv st μ) : AW p l e R s m args below meth c nL D cI cL ad A cs sl Q pc lv st μ := fun H locs ls hR hl => lv_goto C.1 C.2.1 hd ht (k H locs ls hR hl)
theorem aw_tableIn (C : CX p l s m args meth c own b nL ret D cI cL A) {dflt lo hi : Int} {offs : Array Int} {len : Nat} {x : Int32} {off : Int} (t : Nat) (hd : decode b pc = .ok (.tableswitch dflt lo hi offs, len)) (h1 : ¬ x.toInt < lo) (h2 : ¬ hi < x.toInt) (ho : offs[(x.toInt - lo).toNat]? = some off) (ht : (pc : Int) + off = (t : Int)) (k : AW p l e R s m args below meth c nL D cI cL ad A cs sl Q t lv st μ) : AW p l e R s m args below meth c nL D cI cL ad A cs sl Q pc lv (.int x :: st) μ := fun H locs ls hR hl => lv_tableIn C.1 C.2.1 hd h1 h2 ho ht (k H locs ls hR hl)
theorem aw_tableOut (C : CX p l s m args meth c own b nL ret D cI cL A) {dflt lo hi : Int} {offs : Array Int} {len : Nat} {x : Int32} (t : Nat) (hd : decode b pc = .ok (.tableswitch dflt lo hi offs, len)) (h : x.toInt < lo ∨ hi < x.toInt) (ht : (pc : Int) + dflt = (t : Int)) (k : AW p l e R s m args below meth c nL D cI cL ad A cs sl Q t lv st μ) : AW p l e R s m args below meth c nL D cI cL ad A cs sl Q pc lv (.int x :: st) μ := fun H locs ls hR hl => lv_tableOut C.1 C.2.1 hd h ht (k H locs ls hR hl)
theorem aw_lookup (C : CX p l s m args meth c own b nL ret D cI cL A) {dflt : Int} {ps : Array (Int × Int)} {len : Nat} {x : Int32} {off : Int} (t : Nat) (hd : decode b pc = .ok (.lookupswitch dflt ps, len)) (hp : (ps.toList.zip (ps.toList.drop 1)).all (fun (a, next) => a.1 < next.1) = true) (ho : Op.lookupswitch.offset ps.toList dflt x.toInt = off) (ht : (pc : Int) + off = (t : Int)) (k : AW p l e R s m args below meth c nL D cI cL ad A cs sl Q t lv st μ) : AW p l e R s m args below meth c nL D cI cL ad A cs sl Q pc lv (.int x :: st) μ := fun H locs ls hR hl => lv_lookup C.1 C.2.1 hd hp ho ht (k H locs ls hR hl)
theorem aw_get (C : CX p l s m args meth c own b nL ret D cI cL A) {Cn : String} {Tc : u_T} {Nc ci idx a k : Nat} {v : Value} (hin : ∀ w ∈ u_ws Cn Tc Nc, w ∈ WS) (hk : kd a = (1, ci)) (hc : vwCl[ci]? = some (Cn, Tc, Nc)) (hN : k < Nc) (hlk : Cond.fieldLink own idx (Tc k).1 (Tc k).2.1 (Tc k).2.2.1 ∈ WS) (hd : decode b pc = .ok (.getfield idx, 3)) (hv : (flM ad μ ci a)[k]? = some v) (kk : AW p l e R s m args below meth c nL D cI cL ad A cs sl Q (pc + 3) lv (v :: st) μ) : AW p l e R s m args below meth c nL D cI cL ad A cs sl Q pc lv (.ref (ad a) :: st) μ := fun H locs ls hR hl => va_get (D := D) (ci := ci) (v := v) (C := Cn) (T := Tc) (N := Nc) C.1 C.2.1 C.2.2.2.2.1 hin C.2.2.2.1 C.2.2.2.2.2.2.2.1 hR.1 a (ws_obj hk) hc k hN (C.2.2.2.2.1 _ hlk) (fun _ h9 => h9) hv hd (kk H locs ls hR hl)
theorem aw_getN (C : CX p l s m args meth c own b nL ret D cI cL A) {host : String} {Cn : String} {Tc : u_T} {Nc ci idx a k : Nat} {v : Value} (hin : ∀ w ∈ u_ws Cn Tc Nc, w ∈ WS) (hk : kd a = (1, ci)) (hc : vwCl[ci]? = some (Cn, Tc, Nc)) (hN : k < Nc) (hlk : Cond.fieldLinkNest own idx (Tc k).1 (Tc k).2.1 (Tc k).2.2.1 host ∈ NW) (hd : decode b pc = .ok (.getfield idx, 3)) (hv : (flM ad μ ci a)[k]? = some v) (kk : AW p l e R s m args below meth c nL D cI cL ad A cs sl Q (pc + 3) lv (v :: st) μ) : AW p l e R s m args below meth c nL D cI cL ad A cs sl Q pc lv (.ref (ad a) :: st) μ := fun H locs ls hR hl => va_getN (D := D) (ci := ci) (v := v) (C := Cn) (T := Tc) (N := Nc) C.1 C.2.1 C.2.2.2.2.1 hin C.2.2.2.1 C.2.2.2.2.2.2.2.1 hR.1 a (ws_obj hk) hc k hN (va_Nw.use (Nw_on hlk) (C.2.2.2.2.2.2.2.2.1.1 _ hlk)) (fun _ h9 => h9) hv hd (kk H locs ls hR hl)
theorem aw_putV (C : CX p l s m args meth c own b nL ret D cI cL A) {Cn : String} {Tc : u_T} {Nc ci idx a k : Nat} {ty : FieldType} {v : Value} (hin : ∀ w ∈ u_ws Cn Tc Nc, w ∈ WS) (ty0 : Nat → FieldType) (hty : ∀ k, k < Nc → parseFieldDescriptor (Tc k).2.2.1 = some (ty0 k)) (hnm : ∀ a, a < Nc → ∀ b, b < Nc → a ≠ b → (Tc a).2.1 ≠ (Tc b).2.1) (hk : kd a = (1, ci)) (hc : vwCl[ci]? = some (Cn, Tc, Nc)) (hN : k < Nc) (hlk : Cond.fieldLink own idx (Tc k).1 (Tc k).2.1 (Tc k).2.2.1 ∈ WS) (hfin : (Tc k).2.2.2 = false) (hdsc : parseFieldDescriptor (Tc k).2.2.1 = some ty) (hnar : narrow ty v = v) (hfit : fits ty v = true) (hlen : k < (flM ad μ ci a).length) (hd : decode b pc = .ok (.putfield idx, 3)) (hW : WF μ → WF μ') (hws : (wsM cI cL ad μ).set a (ad a, .inr (ci, (flM ad μ ci a).set k v)) = wsM cI cL ad μ') (kk : AW p l e R s m args below meth c nL D cI cL ad A cs sl Q (pc + 3) lv st μ') : AW p l e R s m args below meth c nL D cI cL ad A cs sl Q pc lv (v :: .ref (ad a) :: st) μ := fun H locs ls hR hl => va_put (D := D) (ci := ci) (v := v) (ty := ty) (C := Cn) (T := Tc) (N := Nc) C.1 C.2.1 C.2.2.2.2.1 hin ty0 hty hnm C.2.2.2.1 C.2.2.2.2.2.2.2.1 hR.1 hR.2.1 hR.2.2.1 a (ws_obj hk) hc k hN (C.2.2.2.2.1 _ hlk) (fun _ h9 => h9) hfin hdsc hnar hfit hlen hd (fun H1 locs1 hP hD hS => by rw [hws] at hP hD; exact kk H1 locs1 ls ⟨hP, hD, hS, hW hR.2.2.2⟩ hl)
theorem aw_putVN (C : CX p l s m args meth c own b nL ret D cI cL A) {host : String} {Cn : String} {Tc : u_T} {Nc ci idx a k : Nat} {ty : FieldType} {v : Value} (hin : ∀ w ∈ u_ws Cn Tc Nc, w ∈ WS) (ty0 : Nat → FieldType) (hty : ∀ k, k < Nc → parseFieldDescriptor (Tc k).2.2.1 = some (ty0 k)) (hnm : ∀ a, a < Nc → ∀ b, b < Nc → a ≠ b → (Tc a).2.1 ≠ (Tc b).2.1) (hk : kd a = (1, ci)) (hc : vwCl[ci]? = some (Cn, Tc, Nc)) (hN : k < Nc) (hlk : Cond.fieldLinkNest own idx (Tc k).1 (Tc k).2.1 (Tc k).2.2.1 host ∈ NW) (hfin : (Tc k).2.2.2 = false) (hdsc : parseFieldDescriptor (Tc k).2.2.1 = some ty) (hnar : narrow ty v = v) (hfit : fits ty v = true) (hlen : k < (flM ad μ ci a).length) (hd : decode b pc = .ok (.putfield idx, 3)) (hW : WF μ → WF μ') (hws : (wsM cI cL ad μ).set a (ad a, .inr (ci, (flM ad μ ci a).set k v)) = wsM cI cL ad μ') (kk : AW p l e R s m args below meth c nL D cI cL ad A cs sl Q (pc + 3) lv st μ') : AW p l e R s m args below meth c nL D cI cL ad A cs sl Q pc lv (v :: .ref (ad a) :: st) μ := fun H locs ls hR hl => va_putN (D := D) (ci := ci) (v := v) (ty := ty) (C := Cn) (T := Tc) (N := Nc) C.1 C.2.1 C.2.2.2.2.1 hin ty0 hty hnm C.2.2.2.1 C.2.2.2.2.2.2.2.1 hR.1 hR.2.1 hR.2.2.1 a (ws_obj hk) hc k hN (va_Nw.use (Nw_on hlk) (C.2.2.2.2.2.2.2.2.1.1 _ hlk)) (fun _ h9 => h9) hfin hdsc hnar hfit hlen hd (fun H1 locs1 hP hD hS => by rw [hws] at hP hD; exact kk H1 locs1 ls ⟨hP, hD, hS, hW hR.2.2.2⟩ hl)
theorem aw_iaload (C : CX p l s m args meth c own b nL ret D cI cL A) {a n : Nat} {i : Int32} (hk : kd a = (0, n)) (hin : vp_in i n) (hd : decode b pc = .ok (.iaload, 1)) (kk : AW p l e R s m args below meth c nL D cI cL ad A cs sl Q (pc + 1) lv (.int (μ.1 a i.toNatClampNeg) :: st) μ) : AW p l e R s m args below meth c nL D cI cL ad A cs sl Q pc lv (.int i :: .ref (ad a) :: st) μ := fun H locs ls hR hl => va_iald C.1 C.2.1 C.2.2.2.2.2.2.2.1 hR.1 a 0 (ws_arr hk) rfl hin hd (kk H locs ls hR hl)
theorem aw_iastore (C : CX p l s m args meth c own b nL ret D cI cL A) {a n : Nat} {i x : Int32} (hk : kd a = (0, n)) (hin : vp_in i n) (hd : decode b pc = .ok (.iastore, 1)) (hm : μ' = setI μ a i.toNatClampNeg x) (kk : AW p l e R s m args below meth c nL D cI cL ad A cs sl Q (pc + 1) lv st μ') : AW p l e R s m args below meth c nL D cI cL ad A cs sl Q pc lv (.int x :: .int i :: .ref (ad a) :: st) μ := fun H locs ls hR hl => va_iast C.1 C.2.1 C.2.2.2.2.2.2.2.1 hR.1 hR.2.1 hR.2.2.1 a 0 (ws_arr hk) rfl hin hd (fun H1 locs1 hP hD hS => by rw [ws_setA hk] at hP hD; subst hm; exact kk H1 locs1 ls ⟨hP, hD, hS, hR.2.2.2⟩ hl)
theorem aw_laload (C : CX p l s m args meth c own b nL ret D cI cL A) {a n : Nat} {i : Int32} (hk : kd a = (2, n)) (hi : i = 0) (hd : decode b pc = .ok (.laload, 1)) (kk : AW p l e R s m args below meth c nL D cI cL ad A cs sl Q (pc + 1) lv (.long (mOut μ) :: st) μ) : AW p l e R s m args below meth c nL D cI cL ad A cs sl Q pc lv (.int i :: .ref (ad a) :: st) μ := fun H locs ls hR hl => by subst hi; exact va_lald C.1 C.2.1 C.2.2.2.2.2.2.2.1 hR.1 a 1 (ws_lng hk) rfl vp_in_0 hd (kk H locs ls hR hl)
theorem aw_alen (C : CX p l s m args meth c own b nL ret D cI cL A) {a n : Nat} {v : Int32} (hk : kd a = (0, n)) (hv : v = nI n) (hd : decode b pc = .ok (.arraylength, 1)) (kk : AW p l e R s m args below meth c nL D cI cL ad A cs sl Q (pc + 1) lv (.int v :: st) μ) : AW p l e R s m args below meth c nL D cI cL ad A cs sl Q pc lv (.ref (ad a) :: st) μ := fun H locs ls hR hl => va_alen C.1 C.2.1 C.2.2.2.2.2.2.2.1 hR.1 a 0 (ws_arr hk) (ty := .int) rfl hv.symm hd (kk H locs ls hR hl)
end AWI
end
section
theorem kd_7 : ∀ b, b < 55 → ¬ (kd b).1 = 0 → ¬ (kd b).1 = 1 → (kd b).1 = 2 := by decide +kernel
theorem fl_0_0 {ad : Nat → Nat} {μ : Mm} {a : Nat} {v : Int32} : flM ad (setI μ a 0 v) 0 a = (flM ad μ 0 a).set 0 (.int v) := by simp [flM, setI, setA, upd, mNow, mOth, mH]
theorem fl_0_2 {ad : Nat → Nat} {μ : Mm} {a : Nat} {v : Int32} : flM ad (setI μ a 2 v) 0 a = (flM ad μ 0 a).set 2 (.int v) := by simp [flM, setI, setA, upd, mNow, mOth, mH]
theorem fl_0_6 {ad : Nat → Nat} {μ : Mm} {a : Nat} {v : Int32} : flM ad (setI μ a 6 v) 0 a = (flM ad μ 0 a).set 6 (.int v) := by simp [flM, setI, setA, upd, mNow, mOth, mH]
theorem fl_0_13 {ad : Nat → Nat} {μ : Mm} {a : Nat} {v : Int32} : flM ad (setI μ a 13 v) 0 a = (flM ad μ 0 a).set 13 (.int v) := by simp [flM, setI, setA, upd, mNow, mOth, mH]
theorem fl_2_1 {ad : Nat → Nat} {μ : Mm} {a : Nat} {v : Int32} : flM ad (setI μ a 1 v) 2 a = (flM ad μ 2 a).set 1 (.int v) := by simp [flM, setI, setA, upd, mNow, mOth, mH]
theorem fl_4_0 {ad : Nat → Nat} {μ : Mm} {a : Nat} {v : Int32} : flM ad (setI μ a 0 v) 4 a = (flM ad μ 4 a).set 0 (.int v) := by simp [flM, setI, setA, upd, mNow, mOth, mH]
theorem fl_4_4 {ad : Nat → Nat} {μ : Mm} {a : Nat} {v : Int32} : flM ad (setI μ a 4 v) 4 a = (flM ad μ 4 a).set 4 (.int v) := by simp [flM, setI, setA, upd, mNow, mOth, mH]
theorem fl_4_5 {ad : Nat → Nat} {μ : Mm} {a : Nat} {v : Int32} : flM ad (setI μ a 5 v) 4 a = (flM ad μ 4 a).set 5 (.int v) := by simp [flM, setI, setA, upd, mNow, mOth, mH]
theorem fl_4_7 {ad : Nat → Nat} {μ : Mm} {a : Nat} {v : Int32} : flM ad (setI μ a 7 v) 4 a = (flM ad μ 4 a).set 7 (.int v) := by simp [flM, setI, setA, upd, mNow, mOth, mH]
theorem fl_4_12 {ad : Nat → Nat} {μ : Mm} {a : Nat} {v : Int32} : flM ad (setI μ a 12 v) 4 a = (flM ad μ 4 a).set 12 (.int v) := by simp [flM, setI, setA, upd, mNow, mOth, mH]
theorem fl_4_13 {ad : Nat → Nat} {μ : Mm} {a : Nat} {v : Int32} : flM ad (setI μ a 13 v) 4 a = (flM ad μ 4 a).set 13 (.int v) := by simp [flM, setI, setA, upd, mNow, mOth, mH]
theorem fl_4_14 {ad : Nat → Nat} {μ : Mm} {a : Nat} {v : Int32} : flM ad (setI μ a 14 v) 4 a = (flM ad μ 4 a).set 14 (.int v) := by simp [flM, setI, setA, upd, mNow, mOth, mH]
theorem fl_4_15 {ad : Nat → Nat} {μ : Mm} {a : Nat} {v : Int32} : flM ad (setI μ a 15 v) 4 a = (flM ad μ 4 a).set 15 (.int v) := by simp [flM, setI, setA, upd, mNow, mOth, mH]
theorem fl_4_16 {ad : Nat → Nat} {μ : Mm} {a : Nat} {v : Int32} : flM ad (setI μ a 16 v) 4 a = (flM ad μ 4 a).set 16 (.int v) := by simp [flM, setI, setA, upd, mNow, mOth, mH]
theorem fl_4_17 {ad : Nat → Nat} {μ : Mm} {a : Nat} {v : Int32} : flM ad (setI μ a 17 v) 4 a = (flM ad μ 4 a).set 17 (.int v) := by simp [flM, setI, setA, upd, mNow, mOth, mH]
theorem fl_4_18 {ad : Nat → Nat} {μ : Mm} {a : Nat} {v : Int32} : flM ad (setI μ a 18 v) 4 a = (flM ad μ 4 a).set 18 (.int v) := by simp [flM, setI, setA, upd, mNow, mOth, mH]
theorem fl_4_19 {ad : Nat → Nat} {μ : Mm} {a : Nat} {v : Int32} : flM ad (setI μ a 19 v) 4 a = (flM ad μ 4 a).set 19 (.int v) := by simp [flM, setI, setA, upd, mNow, mOth, mH]
theorem fl_4_20 {ad : Nat → Nat} {μ : Mm} {a : Nat} {v : Int32} : flM ad (setI μ a 20 v) 4 a = (flM ad μ 4 a).set 20 (.int v) := by simp [flM, setI, setA, upd, mNow, mOth, mH]
theorem fl_4_21 {ad : Nat → Nat} {μ : Mm} {a : Nat} {v : Int32} : flM ad (setI μ a 21 v) 4 a = (flM ad μ 4 a).set 21 (.int v) := by simp [flM, setI, setA, upd, mNow, mOth, mH]
theorem fl_4_22 {ad : Nat → Nat} {μ : Mm} {a : Nat} {v : Int32} : flM ad (setI μ a 22 v) 4 a = (flM ad μ 4 a).set 22 (.int v) := by simp [flM, setI, setA, upd, mNow, mOth, mH]
theorem fl_4_23 {ad : Nat → Nat} {μ : Mm} {a : Nat} {v : Int32} : flM ad (setI μ a 23 v) 4 a = (flM ad μ 4 a).set 23 (.int v) := by simp [flM, setI, setA, upd, mNow, mOth, mH]
theorem fl_4_24 {ad : Nat → Nat} {μ : Mm} {a : Nat} {v : Int32} : flM ad (setI μ a 24 v) 4 a = (flM ad μ 4 a).set 24 (.int v) := by simp [flM, setI, setA, upd, mNow, mOth, mH]
theorem fl_now {ad : Nat → Nat} {μ : Mm} {x b : Nat} : ∀ {c : Nat}, c ≠ 3 → flM ad (setNow μ x) c b = flM ad μ c b
  | 0, _ => rfl
  | 1, _ => rfl
  | 2, _ => rfl
  | 3, h => absurd rfl h
  | _ + 4, _ => rfl
theorem fl_oth {ad : Nat → Nat} {μ : Mm} {x b : Nat} : ∀ {c : Nat}, c ≠ 3 → flM ad (setOth μ x) c b = flM ad μ c b
  | 0, _ => rfl
  | 1, _ => rfl
  | 2, _ => rfl
  | 3, h => absurd rfl h
  | _ + 4, _ => rfl
theorem fl_h {ad : Nat → Nat} {μ : Mm} {x : Int64} {b : Nat} : ∀ {c : Nat}, c < 4 → flM ad (setH μ x) c b = flM ad μ c b
  | 0, _ => rfl
  | 1, _ => rfl
  | 2, _ => rfl
  | 3, _ => rfl
  | n + 4, h => absurd h (by omega)
theorem fl_out {ad : Nat → Nat} {μ : Mm} {x : Int64} {b : Nat} : ∀ {c : Nat}, flM ad (setOut μ x) c b = flM ad μ c b
  | 0 => rfl
  | 1 => rfl
  | 2 => rfl
  | 3 => rfl
  | _ + 4 => rfl
theorem ws_now {cI cL : ClassId} {ad : Nat → Nat} {μ : Mm} {x : Nat} : (wsM cI cL ad μ).set 0 (ad 0, .inr (3, (flM ad μ 3 0).set 1 (.ref (ad x)))) = wsM cI cL ad (setNow μ x) :=
  wsM_upd (by decide) (by rw [ce_obj (ci := 3) rfl]; rfl) (ce_other (fun b c hb hne => fl_now (fun h => hne (kd_3 b (kd_lt hb (show 1 < 9 by decide)) (by rw [hb]) (by rw [hb]; exact h)))) rfl rfl)
theorem ws_oth {cI cL : ClassId} {ad : Nat → Nat} {μ : Mm} {x : Nat} : (wsM cI cL ad μ).set 0 (ad 0, .inr (3, (flM ad μ 3 0).set 2 (.ref (ad x)))) = wsM cI cL ad (setOth μ x) :=
  wsM_upd (by decide) (by rw [ce_obj (ci := 3) rfl]; rfl) (ce_other (fun b c hb hne => fl_oth (fun h => hne (kd_3 b (kd_lt hb (show 1 < 9 by decide)) (by rw [hb]) (by rw [hb]; exact h)))) rfl rfl)
theorem ws_h {cI cL : ClassId} {ad : Nat → Nat} {μ : Mm} {x : Int64} : (wsM cI cL ad μ).set 45 (ad 45, .inr (4, (flM ad μ 4 45).set 25 (.long x))) = wsM cI cL ad (setH μ x) :=
  wsM_upd (by decide) (by rw [ce_obj (ci := 4) rfl]; rfl) (ce_other (fun b c hb hne => fl_h (Nat.lt_of_not_le (fun h => hne (kd_4 b (kd_lt hb (show 1 < 9 by decide)) (by rw [hb]) (by rw [hb]; exact h))))) rfl rfl)
theorem ws_out {cI cL : ClassId} {ad : Nat → Nat} {μ : Mm} {x : Int64} {f : Nat → Int64} (hf : ∀ j, f j = if j = 0 then x else 0) : (wsM cI cL ad μ).set 54 (ad 54, .inl (cL, 1, .inr (.inl f))) = wsM cI cL ad (setOut μ x) := by
  have hf' : f = fun j => if j = 0 then x else 0 := funext hf
  subst hf'
  refine wsM_upd (by decide) (by rw [ce_lng (n := 1) rfl]; rfl) (fun b hb hne => ?_)
  unfold ceM
  by_cases q0 : (kd b).1 = 0
  · rw [if_pos q0, if_pos q0]; rfl
  · rw [if_neg q0, if_neg q0]
    by_cases q1 : (kd b).1 = 1
    · rw [if_pos q1, if_pos q1, fl_out]
    · exact absurd (kd_6 b hb (kd_7 b hb q0 q1)) hne
theorem updL_0 {o x : Int64} {j : Nat} : vp_updL (fun j => if j = 0 then o else 0) (Int32.toNatClampNeg 0) x j = if j = 0 then x else 0 := by
  unfold vp_updL
  by_cases q : j = 0
  · subst q
    rfl
  · rw [if_neg (show ¬ j = Int32.toNatClampNeg 0 from q), if_neg q]
    exact if_neg q
section AWJ
variable {p : Program} {l : Launch} {e : Env} {R : Room} {s : State} {m : MethodId} {args : Array Value} {below : List Frame} {meth : Method} {c : Code} {nL : Nat} {D : va_G} {cI cL : ClassId} {ad : Nat → Nat} {A : Nat → Prop} {cs sl : Nat} {Q : State → Prop} {pc : Nat} {lv lv' : List (Nat × Value)} {st : List Value} {μ μ' : Mm} {own : String} {b : ByteArray} {ret : Option FieldType}
theorem aw_putI (C : CX p l s m args meth c own b nL ret D cI cL A) {Cn : String} {Tc : u_T} {Nc ci idx a k : Nat} {v : Int32} {ty : FieldType} (hin : ∀ w ∈ u_ws Cn Tc Nc, w ∈ WS) (ty0 : Nat → FieldType) (hty : ∀ k, k < Nc → parseFieldDescriptor (Tc k).2.2.1 = some (ty0 k)) (hnm : ∀ a, a < Nc → ∀ b, b < Nc → a ≠ b → (Tc a).2.1 ≠ (Tc b).2.1) (hk : kd a = (1, ci)) (hc : vwCl[ci]? = some (Cn, Tc, Nc)) (hN : k < Nc) (hlk : Cond.fieldLink own idx (Tc k).1 (Tc k).2.1 (Tc k).2.2.1 ∈ WS) (hfin : (Tc k).2.2.2 = false) (hdsc : parseFieldDescriptor (Tc k).2.2.1 = some ty) (hnar : narrow ty (.int v) = .int v) (hfit : fits ty (.int v) = true) (hlen : k < (flM ad μ ci a).length) (hd : decode b pc = .ok (.putfield idx, 3)) (hfl : flM ad (setI μ a k v) ci a = (flM ad μ ci a).set k (.int v)) (hm : μ' = setI μ a k v) (kk : AW p l e R s m args below meth c nL D cI cL ad A cs sl Q (pc + 3) lv st μ') : AW p l e R s m args below meth c nL D cI cL ad A cs sl Q pc lv (.int v :: .ref (ad a) :: st) μ := aw_putV C hin ty0 hty hnm hk hc hN hlk hfin hdsc hnar hfit hlen hd (fun h => by subst hm; exact h) (by subst hm; exact ws_setF hk hfl) kk
theorem aw_putIN (C : CX p l s m args meth c own b nL ret D cI cL A) {host : String} {Cn : String} {Tc : u_T} {Nc ci idx a k : Nat} {v : Int32} {ty : FieldType} (hin : ∀ w ∈ u_ws Cn Tc Nc, w ∈ WS) (ty0 : Nat → FieldType) (hty : ∀ k, k < Nc → parseFieldDescriptor (Tc k).2.2.1 = some (ty0 k)) (hnm : ∀ a, a < Nc → ∀ b, b < Nc → a ≠ b → (Tc a).2.1 ≠ (Tc b).2.1) (hk : kd a = (1, ci)) (hc : vwCl[ci]? = some (Cn, Tc, Nc)) (hN : k < Nc) (hlk : Cond.fieldLinkNest own idx (Tc k).1 (Tc k).2.1 (Tc k).2.2.1 host ∈ NW) (hfin : (Tc k).2.2.2 = false) (hdsc : parseFieldDescriptor (Tc k).2.2.1 = some ty) (hnar : narrow ty (.int v) = .int v) (hfit : fits ty (.int v) = true) (hlen : k < (flM ad μ ci a).length) (hd : decode b pc = .ok (.putfield idx, 3)) (hfl : flM ad (setI μ a k v) ci a = (flM ad μ ci a).set k (.int v)) (hm : μ' = setI μ a k v) (kk : AW p l e R s m args below meth c nL D cI cL ad A cs sl Q (pc + 3) lv st μ') : AW p l e R s m args below meth c nL D cI cL ad A cs sl Q pc lv (.int v :: .ref (ad a) :: st) μ := aw_putVN C hin ty0 hty hnm hk hc hN hlk hfin hdsc hnar hfit hlen hd (fun h => by subst hm; exact h) (by subst hm; exact ws_setF hk hfl) kk
theorem aw_lastore (C : CX p l s m args meth c own b nL ret D cI cL A) {i : Int32} {x : Int64} (hi : i = 0) (hd : decode b pc = .ok (.lastore, 1)) (hm : μ' = setOut μ x) (kk : AW p l e R s m args below meth c nL D cI cL ad A cs sl Q (pc + 1) lv st μ') : AW p l e R s m args below meth c nL D cI cL ad A cs sl Q pc lv (.long x :: .int i :: .ref (ad 54) :: st) μ := fun H locs ls hR hl => va_last C.1 C.2.1 C.2.2.2.2.2.2.2.1 hR.1 hR.2.1 hR.2.2.1 54 1 (ws_lng (n := 1) rfl) rfl (by subst hi; exact vp_in_0) hd (fun H1 locs1 hP hD hS => by rw [ws_out (x := x) (fun j => by subst hi; exact updL_0)] at hP hD; subst hm; exact kk H1 locs1 ls ⟨hP, hD, hS, hR.2.2.2⟩ hl)
theorem aw_iret (C : CX p l s m args meth c own b nL (some .int) D cI cL (AA ad s.heap.size)) {v : Int32} (hd : decode b pc = .ok (.ireturn, 1)) : AW p l e R s m args below meth c nL D cI cL ad (AA ad s.heap.size) 0 0 (QX D cI cL ad (.inr (some (.int v))) μ below args s) pc lv [.int v] μ := fun H locs ls hR hl => vx_ret (W.iret C.1 C.2.1 C.2.2.2.2.2.2.1 (fun t ht hW => ⟨_, rfl, rfl, by rw [ht]; exact hR.1, hR.2.2.2, hR.2.2.1.F ht⟩) hR.2.2.1.2.2 hd C.2.2.2.2.2.1)
theorem aw_zret (C : CX p l s m args meth c own b nL (some .boolean) D cI cL (AA ad s.heap.size)) {v : Int32} (hn : narrow .boolean (.int v) = .int v) (hd : decode b pc = .ok (.ireturn, 1)) : AW p l e R s m args below meth c nL D cI cL ad (AA ad s.heap.size) 0 0 (QX D cI cL ad (.inr (some (.int v))) μ below args s) pc lv [.int v] μ := fun H locs ls hR hl => vx_ret (W.zret C.1 C.2.1 C.2.2.2.2.2.2.1 hn (fun t ht hW => ⟨_, rfl, rfl, by rw [ht]; exact hR.1, hR.2.2.2, hR.2.2.1.F ht⟩) hR.2.2.1.2.2 hd C.2.2.2.2.2.1)
theorem aw_vret (C : CX p l s m args meth c own b nL none D cI cL (AA ad s.heap.size)) (hd : decode b pc = .ok (.return_, 1)) : AW p l e R s m args below meth c nL D cI cL ad (AA ad s.heap.size) 0 0 (QX D cI cL ad (.inr none) μ below args s) pc lv [] μ := fun H locs ls hR hl => vx_ret (W.vret C.1 C.2.1 C.2.2.2.2.2.2.1 (fun t ht hW => ⟨_, rfl, rfl, by rw [ht]; exact hR.1, hR.2.2.2, hR.2.2.1.F ht⟩) hR.2.2.1.2.2 hd C.2.2.2.2.2.1)
theorem aw_lret (C : CX p l s m args meth c own b nL (some .long) D cI cL (AA ad s.heap.size)) {v : Int64} (hd : decode b pc = .ok (.lreturn, 1)) : AW p l e R s m args below meth c nL D cI cL ad (AA ad s.heap.size) 0 0 (QX D cI cL ad (.inr (some (.long v))) μ below args s) pc lv [.long v] μ := fun H locs ls hR hl => vx_ret (W.lret C.1 C.2.1 C.2.2.2.2.2.2.1 (fun t ht hW => ⟨_, rfl, rfl, by rw [ht]; exact hR.1, hR.2.2.2, hR.2.2.1.F ht⟩) hR.2.2.1.2.2 hd C.2.2.2.2.2.1)
theorem aw_dret (C : CX p l s m args meth c own b nL (some .double) D cI cL (AA ad s.heap.size)) {v : UInt64} (hd : decode b pc = .ok (.dreturn, 1)) : AW p l e R s m args below meth c nL D cI cL ad (AA ad s.heap.size) 0 0 (QX D cI cL ad (.inr (some (.double v))) μ below args s) pc lv [.double v] μ := fun H locs ls hR hl => vx_ret (W.dret C.1 C.2.1 C.2.2.2.2.2.2.1 (fun t ht hW => ⟨_, rfl, rfl, by rw [ht]; exact hR.1, hR.2.2.2, hR.2.2.1.F ht⟩) hR.2.2.1.2.2 hd C.2.2.2.2.2.1)
end AWJ
end
section
section AWK
variable {p : Program} {l : Launch} {e : Env} {R : Room} {s : State} {m : MethodId} {args : Array Value} {below : List Frame} {meth : Method} {c : Code} {nL : Nat} {D : va_G} {cI cL : ClassId} {ad : Nat → Nat} {A : Nat → Prop} {cs sl : Nat} {Q : State → Prop} {pc : Nat} {lv lv' : List (Nat × Value)} {st rest : List Value} {μ μ' : Mm} {own : String} {b : ByteArray} {ret : Option FieldType}
variable {y : MethodName} {Cn : String} {bY : ByteArray} {nY n idx dY a : Nat} {rY : Option FieldType} {As : (Nat → Nat) → List Value} {Bs : List Value} {v : Option Value} {r : Rs}
def nmE : List String := ["java/lang/RuntimeException", "java/lang/Exception"]
def OKT (own : String) (ik is ic : Nat) (cls text : String) : Prop := Bundle.fit cls = true ∧ Cond.classLink own ik cls ∈ WS ∧ Cond.initialized cls ∈ WS ∧ (own, is, text) ∈ SW ∧ (∀ w ∈ vx_atS own ic cls nmE, w ∈ WS ∨ w ∈ NW) ∧ (∀ w ∈ Cond.classLink own ik cls :: Cond.initialized cls :: vx_atS own ic cls nmE, vx_ot w = true)
theorem aw_throw (C : CX p l s m args meth c own b nL ret D cI cL (AA ad s.heap.size)) {cls text : String} {ik is ic : Nat} (hex : ∀ x ∈ c.exceptionTable.toList, False) (ok : OKT own ik is ic cls text)
    (d0 : decode b pc = .ok (.new ik, 3)) (d3 : decode b (pc + 3) = .ok (.dup, 1)) (d4 : decode b (pc + 4) = .ok (.ldc is, 2)) (d6 : decode b (pc + 6) = .ok (.invokespecial ic, 3)) (d9 : decode b (pc + 9) = .ok (.athrow, 1))
    (hf : 5 < R.frames) (hlo : (st.map fun v => v.category).sum + 82 ≤ R.locals) (hc : 1 ≤ R.cells) (hsl : 6 ≤ R.slots) :
    AW p l e R s m args below meth c nL D cI cL ad (AA ad s.heap.size) 0 0 (QX D cI cL ad (.inl cls) μ below args s) pc lv st μ := by
  obtain ⟨hx, hb, hml, hown, hts, hlk, hrt, hK, hG, hA, htr⟩ := id C
  obtain ⟨o1, o2, o3, o4, o5, o6⟩ := ok
  obtain ⟨sa, hsa⟩ := hG.2.1 _ o4
  intro H locs ls hR hl
  refine vx_throwS (names := nmE) (sa := sa) (A := AA ad s.heap.size) hx hb htr hown o1 (by decide) (hts _ o2) (hts _ o3) hsa (fun w hw => (o5 w hw).elim (hts w) (fun h => va_Nw.use (Nw_on h) (hG.1 w h))) o6 hG.2.2.1 hG.2.2.2 hR.2.2.1 (hl.1.trans hml.symm) d0 d3 d4 d6 d9 (fun x hx => (hex x hx).elim) hf hlo (by omega) (by omega) hlk (fun t ht hz hk => ⟨rfl, fun k q hq => (hR.1 k q hq).kept (hk q.1 (hR.1 k q hq).lt), hR.2.2.2, Nat.le_trans hR.2.2.1.1 hz, fun q h1 h2 => ?_⟩) hR.2.2.1.2.2 (Nat.le_refl _) (Nat.le_refl _)
  rw [hk q (Nat.lt_of_lt_of_le h1 hR.2.2.1.1)]
  exact hR.2.2.1.2.1 q h1 h2
theorem aw_out (C : CX p l s m args meth c own b nL ret D cI cL (AA ad s.heap.size)) {E : String} {a9 : Array Value} (hex : ∀ x ∈ c.exceptionTable.toList, False)
    (hr : ∀ H locs ls, RepA D cI cL ad (AA ad s.heap.size) s.heap μ H locs → lv_has ls nL lv → vx_Run p l e R s m args below meth c H locs 0 0 1 6 (F0 m pc ls st) rest (QcX D cI cL ad (.inl E) μ' H.size a9) (XcX D cI cL ad (.inl E) μ' H.size) (AA ad H.size)) :
    AW p l e R s m args below meth c nL D cI cL ad (AA ad s.heap.size) 0 0 (QX D cI cL ad (.inl E) μ' below args s) pc lv st μ := by
  obtain ⟨-, -, -, -, -, hlk, -, hK, hG, hA, -⟩ := id C
  intro H locs ls hR hl T hT X
  rcases hr H locs ls hR hl T hT X with ⟨v', st₀, t, T', L, h0, X', hL, e1, e2, ⟨v2, hv2, -⟩, -⟩ | ⟨q, st₀, t, T', L, E', ce, h0, X', hL, e1, e2, ⟨hh, hP1, hwf, hF⟩, hce, hcv, hcl, st⟩
  · cases hv2
  · cases hh
    obtain ⟨hP, hD, hS, hw⟩ := hR
    have hsub := AA_sub hD hA hS.1
    obtain ⟨k1, k2, k3⟩ := vx_keep h0 e1 hS (fun q _ h => hsub q h) hsub hL hF
    obtain ⟨t2, a1, b1⟩ := vx_out (p := p) (l := l) (e := e) (R := R) (s := s) (m := m) (args := args) (below := below) (meth := meth) (c := c) (H := T'.heap) (locs := locs ++ L) (cells := 0 + 1) (slots := 0 + 6) (ls := ls) (rest := rest) (pc := pc) (free := AA ad s.heap.size) (Qc := QcX D cI cL ad (.inl E) μ' s.heap.size) (XC := XcX D cI cL ad (.inl E) μ' s.heap.size) (mc := 1) (ms := 6) (fun x hx => (hex x hx).elim) hlk (by rw [e1]; exact hce) hcv hcl (fun t9 h9 hv9 => ⟨rfl, by rw [h9, e1]; exact hP1, hwf, k3.F h9⟩) k3.2.2 (Nat.le_refl _) (Nat.le_refl _) T' rfl X'
    exact ⟨t2, st.trans a1, b1⟩
theorem aw_callVT (C : CX p l s m args meth c own b nL ret D cI cL (AA ad s.heap.size)) {E : String} (hex : ∀ x ∈ c.exceptionTable.toList, False) (hM : MetX l y bY nY rY dY As μ (.inl E) μ') (ok : OKV y Cn bY nY rY n) (hlk : Cond.methodLink own idx y ∈ WS) {ci : Nat} {Tc : u_T} {Nc : Nat} (hk : kd a = (1, ci)) (hc : vwCl[ci]? = some (Cn, Tc, Nc)) (hAs : As ad = .ref (ad a) :: Bs) (hn : Bs.length = n)
    (hst : (rest.map fun v => v.category).sum ≤ 8) (hd : decode b pc = .ok (.invokevirtual idx, 3)) (hR : dY + 1 ≤ R.frames ∧ 8 + (nY + 11) + 31 * dY ≤ R.locals) (hf : 1 ≤ R.cells ∧ 6 ≤ R.slots) {st0 : List Value} (hs0 : st0 = Bs.reverse ++ .ref (ad a) :: rest) :
    AW p l e R s m args below meth c nL D cI cL ad (AA ad s.heap.size) 0 0 (QX D cI cL ad (.inl E) μ' below args s) pc lv st0 μ := by
  subst hs0
  exact aw_out C hex (run_V C hM ok hlk hk hc hAs hn hst hd hR ⟨by show 0 + 1 ≤ _; omega, by show 0 + 6 ≤ _; omega⟩)
theorem aw_callST (C : CX p l s m args meth c own b nL ret D cI cL (AA ad s.heap.size)) {E : String} (hex : ∀ x ∈ c.exceptionTable.toList, False) (hM : MetX l y bY nY rY dY As μ (.inl E) μ') (ok : OKS y bY nY rY n) (hlk : Cond.methodLink own idx y ∈ WS) (hAs : As ad = Bs) (hn : Bs.length = n)
    (hst : (rest.map fun v => v.category).sum ≤ 8) (hd : decode b pc = .ok (.invokestatic idx, 3)) (hR : dY + 1 ≤ R.frames ∧ 8 + (nY + 11) + 31 * dY ≤ R.locals) (hf : 1 ≤ R.cells ∧ 6 ≤ R.slots) {st0 : List Value} (hs0 : st0 = Bs.reverse ++ rest) :
    AW p l e R s m args below meth c nL D cI cL ad (AA ad s.heap.size) 0 0 (QX D cI cL ad (.inl E) μ' below args s) pc lv st0 μ := by
  subst hs0
  exact aw_out C hex (run_S C hM ok hlk hAs hn hst hd hR ⟨by show 0 + 1 ≤ _; omega, by show 0 + 6 ≤ _; omega⟩)
end AWK
theorem MetX.of {l : Launch} {y : MethodName} {b : ByteArray} {nL : Nat} {ret : Option FieldType} {d : Nat} {As : (Nat → Nat) → List Value} {μ μ' : Mm} {r : Rs} {own : String} (htr : l.stackTraces = false) (hy : plainName y.cls = true) (ho : y.cls = own) (hlen : ∀ ad, (lg_sl (As ad)).length ≤ nL)
    (body : ∀ (p : Program) (e : Env) (s : State) (m : MethodId) (args : Array Value) (below : List Frame) (meth : Method) (c : Code) (D : va_G) (cI cL : ClassId) (ad : Nat → Nat), CX p l s m args meth c own b nL ret D cI cL (AA ad s.heap.size) → (∀ x ∈ c.exceptionTable.toList, False) → WF μ →
      AW p l e (rmA d (mcR r) (msR r)) s m args below meth c nL D cI cL ad (AA ad s.heap.size) 0 0 (QX D cI cL ad r μ' below args s) 0 (lv_args 0 (As ad)) [] μ) : MetX l y b nL ret d As μ r μ' := by
  intro D cI cL ad sz
  refine vx_ofW (cc := b) (maxL := nL) (ret := ret) hy rfl ?_
  intro p e s m args below meth c s₁ B hml hex hv
  obtain ⟨rfl, hsz, hP, hK, hD, hw, hG⟩ := hv
  subst hsz
  have hts := atoms_spec (ws := WSy y b nL ret) B.pre
  have hown : s.vm.findClass own = some m.cls := by rw [← ho]; exact findClass_of_methodNamed B.named
  have C : CX p l s m (As ad).toArray meth c own b nL ret D cI cL (AA ad s.heap.size) := ⟨B.exec, B.bytes, hml, hown, fun w h => hts w (List.mem_cons_of_mem _ h), B.notSynchronized, B.returns, hK, hG, fun q h => Or.inr h, htr⟩
  have hl0 := lv_entry (As ad) (n := nL) (hlen ad)
  rw [lg_entry_eq]
  exact body p e s m _ below meth c D cI cL ad C hex hw s.heap [] _ ⟨hP, hD, va_S.rf, hw⟩ hl0
end
section
section AWM
variable {p : Program} {l : Launch} {e : Env} {R : Room} {s : State} {m : MethodId} {args : Array Value} {below : List Frame} {meth : Method} {c : Code} {nL : Nat} {D : va_G} {cI cL : ClassId} {ad : Nat → Nat} {A : Nat → Prop} {cs sl : Nat} {Q : State → Prop} {pc : Nat} {lv lv' : List (Nat × Value)} {st rest : List Value} {μ μ' : Mm} {own : String} {b : ByteArray} {ret : Option FieldType}
variable {y : MethodName} {Cn : String} {bY : ByteArray} {nY n idx dY a : Nat} {rY : Option FieldType} {As : (Nat → Nat) → List Value} {Bs : List Value}
theorem aw_Vi (C : CX p l s m args meth c own b nL ret D cI cL A) {v : Int32} (hM : MetX l y bY nY rY dY As μ (.inr (some (.int v))) μ') (ok : OKV y Cn bY nY rY n) (hlk : Cond.methodLink own idx y ∈ WS) {ci : Nat} {Tc : u_T} {Nc : Nat} (hk : kd a = (1, ci)) (hc : vwCl[ci]? = some (Cn, Tc, Nc)) (hAs : As ad = .ref (ad a) :: Bs) (hn : Bs.length = n) (hd : decode b pc = .ok (.invokevirtual idx, 3)) (hR : dY + 1 ≤ R.frames ∧ 8 + (nY + 11) + 31 * dY ≤ R.locals) (hf : cs ≤ R.cells ∧ sl ≤ R.slots) (rest : List Value) (hst : (rest.map fun v => v.category).sum ≤ 8) {st0 : List Value} (hs0 : st0 = Bs.reverse ++ .ref (ad a) :: rest) (kk : AW p l e R s m args below meth c nL D cI cL ad A cs sl Q (pc + 3) lv (.int v :: rest) μ') : AW p l e R s m args below meth c nL D cI cL ad A cs sl Q pc lv st0 μ := aw_callV C hM ok hlk hk hc hAs hn hst hd hR hf hs0 kk
theorem aw_Si (C : CX p l s m args meth c own b nL ret D cI cL A) {v : Int32} (hM : MetX l y bY nY rY dY As μ (.inr (some (.int v))) μ') (ok : OKS y bY nY rY n) (hlk : Cond.methodLink own idx y ∈ WS) (hAs : As ad = Bs) (hn : Bs.length = n) (hd : decode b pc = .ok (.invokestatic idx, 3)) (hR : dY + 1 ≤ R.frames ∧ 8 + (nY + 11) + 31 * dY ≤ R.locals) (hf : cs ≤ R.cells ∧ sl ≤ R.slots) (rest : List Value) (hst : (rest.map fun v => v.category).sum ≤ 8) {st0 : List Value} (hs0 : st0 = Bs.reverse ++ rest) (kk : AW p l e R s m args below meth c nL D cI cL ad A cs sl Q (pc + 3) lv (.int v :: rest) μ') : AW p l e R s m args below meth c nL D cI cL ad A cs sl Q pc lv st0 μ := aw_callS C hM ok hlk hAs hn hst hd hR hf hs0 kk
theorem aw_Vl (C : CX p l s m args meth c own b nL ret D cI cL A) {v : Int64} (hM : MetX l y bY nY rY dY As μ (.inr (some (.long v))) μ') (ok : OKV y Cn bY nY rY n) (hlk : Cond.methodLink own idx y ∈ WS) {ci : Nat} {Tc : u_T} {Nc : Nat} (hk : kd a = (1, ci)) (hc : vwCl[ci]? = some (Cn, Tc, Nc)) (hAs : As ad = .ref (ad a) :: Bs) (hn : Bs.length = n) (hd : decode b pc = .ok (.invokevirtual idx, 3)) (hR : dY + 1 ≤ R.frames ∧ 8 + (nY + 11) + 31 * dY ≤ R.locals) (hf : cs ≤ R.cells ∧ sl ≤ R.slots) (rest : List Value) (hst : (rest.map fun v => v.category).sum ≤ 8) {st0 : List Value} (hs0 : st0 = Bs.reverse ++ .ref (ad a) :: rest) (kk : AW p l e R s m args below meth c nL D cI cL ad A cs sl Q (pc + 3) lv (.long v :: rest) μ') : AW p l e R s m args below meth c nL D cI cL ad A cs sl Q pc lv st0 μ := aw_callV C hM ok hlk hk hc hAs hn hst hd hR hf hs0 kk
theorem aw_Sl (C : CX p l s m args meth c own b nL ret D cI cL A) {v : Int64} (hM : MetX l y bY nY rY dY As μ (.inr (some (.long v))) μ') (ok : OKS y bY nY rY n) (hlk : Cond.methodLink own idx y ∈ WS) (hAs : As ad = Bs) (hn : Bs.length = n) (hd : decode b pc = .ok (.invokestatic idx, 3)) (hR : dY + 1 ≤ R.frames ∧ 8 + (nY + 11) + 31 * dY ≤ R.locals) (hf : cs ≤ R.cells ∧ sl ≤ R.slots) (rest : List Value) (hst : (rest.map fun v => v.category).sum ≤ 8) {st0 : List Value} (hs0 : st0 = Bs.reverse ++ rest) (kk : AW p l e R s m args below meth c nL D cI cL ad A cs sl Q (pc + 3) lv (.long v :: rest) μ') : AW p l e R s m args below meth c nL D cI cL ad A cs sl Q pc lv st0 μ := aw_callS C hM ok hlk hAs hn hst hd hR hf hs0 kk
theorem aw_Vd (C : CX p l s m args meth c own b nL ret D cI cL A) {v : UInt64} (hM : MetX l y bY nY rY dY As μ (.inr (some (.double v))) μ') (ok : OKV y Cn bY nY rY n) (hlk : Cond.methodLink own idx y ∈ WS) {ci : Nat} {Tc : u_T} {Nc : Nat} (hk : kd a = (1, ci)) (hc : vwCl[ci]? = some (Cn, Tc, Nc)) (hAs : As ad = .ref (ad a) :: Bs) (hn : Bs.length = n) (hd : decode b pc = .ok (.invokevirtual idx, 3)) (hR : dY + 1 ≤ R.frames ∧ 8 + (nY + 11) + 31 * dY ≤ R.locals) (hf : cs ≤ R.cells ∧ sl ≤ R.slots) (rest : List Value) (hst : (rest.map fun v => v.category).sum ≤ 8) {st0 : List Value} (hs0 : st0 = Bs.reverse ++ .ref (ad a) :: rest) (kk : AW p l e R s m args below meth c nL D cI cL ad A cs sl Q (pc + 3) lv (.double v :: rest) μ') : AW p l e R s m args below meth c nL D cI cL ad A cs sl Q pc lv st0 μ := aw_callV C hM ok hlk hk hc hAs hn hst hd hR hf hs0 kk
theorem aw_Sd (C : CX p l s m args meth c own b nL ret D cI cL A) {v : UInt64} (hM : MetX l y bY nY rY dY As μ (.inr (some (.double v))) μ') (ok : OKS y bY nY rY n) (hlk : Cond.methodLink own idx y ∈ WS) (hAs : As ad = Bs) (hn : Bs.length = n) (hd : decode b pc = .ok (.invokestatic idx, 3)) (hR : dY + 1 ≤ R.frames ∧ 8 + (nY + 11) + 31 * dY ≤ R.locals) (hf : cs ≤ R.cells ∧ sl ≤ R.slots) (rest : List Value) (hst : (rest.map fun v => v.category).sum ≤ 8) {st0 : List Value} (hs0 : st0 = Bs.reverse ++ rest) (kk : AW p l e R s m args below meth c nL D cI cL ad A cs sl Q (pc + 3) lv (.double v :: rest) μ') : AW p l e R s m args below meth c nL D cI cL ad A cs sl Q pc lv st0 μ := aw_callS C hM ok hlk hAs hn hst hd hR hf hs0 kk
theorem aw_Vv (C : CX p l s m args meth c own b nL ret D cI cL A) (hM : MetX l y bY nY rY dY As μ (.inr (none)) μ') (ok : OKV y Cn bY nY rY n) (hlk : Cond.methodLink own idx y ∈ WS) {ci : Nat} {Tc : u_T} {Nc : Nat} (hk : kd a = (1, ci)) (hc : vwCl[ci]? = some (Cn, Tc, Nc)) (hAs : As ad = .ref (ad a) :: Bs) (hn : Bs.length = n) (hd : decode b pc = .ok (.invokevirtual idx, 3)) (hR : dY + 1 ≤ R.frames ∧ 8 + (nY + 11) + 31 * dY ≤ R.locals) (hf : cs ≤ R.cells ∧ sl ≤ R.slots) (rest : List Value) (hst : (rest.map fun v => v.category).sum ≤ 8) {st0 : List Value} (hs0 : st0 = Bs.reverse ++ .ref (ad a) :: rest) (kk : AW p l e R s m args below meth c nL D cI cL ad A cs sl Q (pc + 3) lv (rest) μ') : AW p l e R s m args below meth c nL D cI cL ad A cs sl Q pc lv st0 μ := aw_callV C hM ok hlk hk hc hAs hn hst hd hR hf hs0 kk
theorem aw_Sv (C : CX p l s m args meth c own b nL ret D cI cL A) (hM : MetX l y bY nY rY dY As μ (.inr (none)) μ') (ok : OKS y bY nY rY n) (hlk : Cond.methodLink own idx y ∈ WS) (hAs : As ad = Bs) (hn : Bs.length = n) (hd : decode b pc = .ok (.invokestatic idx, 3)) (hR : dY + 1 ≤ R.frames ∧ 8 + (nY + 11) + 31 * dY ≤ R.locals) (hf : cs ≤ R.cells ∧ sl ≤ R.slots) (rest : List Value) (hst : (rest.map fun v => v.category).sum ≤ 8) {st0 : List Value} (hs0 : st0 = Bs.reverse ++ rest) (kk : AW p l e R s m args below meth c nL D cI cL ad A cs sl Q (pc + 3) lv (rest) μ') : AW p l e R s m args below meth c nL D cI cL ad A cs sl Q pc lv st0 μ := aw_callS C hM ok hlk hAs hn hst hd hR hf hs0 kk
theorem metx_met {ws : List Cond} {rm : Room} {Pc : Array Value → State → Prop} {Qc : Array Value → State → Outcome → State → Prop} {XC : String → State → State → Prop} {mc ms : Nat} {free : Addr → Prop} (h : vx_Met l y ws rm Pc Qc XC mc ms free) (hx : ∀ E st t, ¬ XC E st t) : Met l y ws rm Pc Qc mc ms free := by
  intro p e h1 h2 h3 s m args below hf hs hp hk
  obtain ⟨n, o, a1, a2, a3, a4⟩ := h p e h1 h2 h3 s m args below hf hs hp hk
  refine ⟨n, o, a1, a2, a3, ?_⟩
  rcases a4 with h | ⟨q, -, E, ce, L, hX, -⟩
  · exact h
  · exact absurd hX (hx _ _ _)
theorem aw_SNi (C : CX p l s m args meth c own b nL ret D cI cL A) {v : Int32} {host : String} (hM : MetX l y bY nY rY dY As μ (.inr (some (.int v))) μ') (ok : OKS y bY nY rY n) (hlk : Cond.methodLinkNest own idx y host ∈ NW) (hAs : As ad = Bs) (hn : Bs.length = n) (hd : decode b pc = .ok (.invokestatic idx, 3)) (hR : dY + 1 ≤ R.frames ∧ 8 + (nY + 11) + 31 * dY ≤ R.locals) (hf : cs ≤ R.cells ∧ sl ≤ R.slots) (rest : List Value) (hst : (rest.map fun v => v.category).sum ≤ 8) {st0 : List Value} (hs0 : st0 = Bs.reverse ++ rest) (kk : AW p l e R s m args below meth c nL D cI cL ad A cs sl Q (pc + 3) lv (.int v :: rest) μ') : AW p l e R s m args below meth c nL D cI cL ad A cs sl Q pc lv st0 μ := by
  subst hs0
  refine aw_run C (v := some (.int v)) (a9 := Bs.toArray) (fun H locs ls hRp hl => ?_) kk
  obtain ⟨hx, hb, hml, hown, hts, hlo, hrt, hK, hG, hA, htr⟩ := id C
  obtain ⟨⟨o1, o2, o3⟩, od⟩ := ok
  have hM' := metx_met (hM D cI cL ad H.size) (fun E st t h => by obtain ⟨h1, -⟩ := h; cases h1)
  rw [hAs] at hM'
  have hrun := va_runSN (p := p) (e := e) (R := R) (H := H) (locs := locs) (cells := cs) (slots := sl) (below := below) (meth := meth) (Ts := WS) (n := n) (g := F0 m pc ls (Bs.reverse ++ rest)) (rest := rest) ⟨hx, hb, hml, hown, hts⟩ hM' ⟨va_cnB n hts (goodIn_WS (WSy_sub o3)) rfl rfl rfl (hG.1 _ hlk) (hts _ o2) od hR, hts _ o1, trivial⟩ ⟨PcA_blind, pre_call C hRp⟩ rfl hn hl.1 rfl (lv_room hst) hd hf
  intro T hT X
  exact Or.inl (hrun T hT X)
theorem aw_sub (ks : List Nat) (h : lv_pick lv ks = lv') (k : AW p l e R s m args below meth c nL D cI cL ad A cs sl Q pc lv' st μ) : AW p l e R s m args below meth c nL D cI cL ad A cs sl Q pc lv st μ := fun H locs ls hR hl => k H locs ls hR (lv_sub hl ks h)
theorem aw_max (C : CX p l s m args meth c own b nL ret D cI cL A) {x y : Int32} (hlk : Cond.methodLink own idx Lib.Math.max.name ∈ WS) (h2 : Cond.static Lib.Math.max.name ∈ WS) (h3 : Cond.initialized "java/lang/Math" ∈ WS) (h4 : Cond.code Lib.Math.max.name Lib.Math.max.code 2 (some .int) ∈ WS) (hd : decode b pc = .ok (.invokestatic idx, 3)) (hfr : 1 ≤ R.frames) (hlo : (st.map fun v => v.category).sum + 13 ≤ R.locals) (hf : cs ≤ R.cells ∧ sl ≤ R.slots) (kk : AW p l e R s m args below meth c nL D cI cL ad A cs sl Q (pc + 3) lv (.int (if x < y then y else x) :: st) μ) : AW p l e R s m args below meth c nL D cI cL ad A cs sl Q pc lv (.int y :: .int x :: st) μ := fun H locs ls hR hl => va_mmax C.1 C.2.1 (C.2.2.1.trans hl.1.symm) C.2.2.2.1 (C.2.2.2.2.1 _ hlk) (C.2.2.2.2.1 _ h2) (C.2.2.2.2.1 _ h3) (C.2.2.2.2.1 _ h4) hfr hlo hf.1 hf.2 hd (kk H locs ls hR hl)
theorem aw_copy (C : CX p l s m args meth c own b nL ret D cI cL A) {a0 a1 n0 n1 : Nat} {sp dp nn : Int32} (hlk : Cond.methodLink own idx arraycopyName ∈ WS) (h2 : Cond.native arraycopyName ∈ WS) (h3 : Cond.static arraycopyName ∈ WS) (h4 : Cond.initialized "java/lang/System" ∈ WS) (hk0 : kd a0 = (0, n0)) (hk1 : kd a1 = (0, n1)) (c1 : ¬ sp < 0) (c2 : ¬ dp < 0) (c3 : ¬ nn < 0) (c4 : sp.toNatClampNeg + nn.toNatClampNeg ≤ n0) (c5 : dp.toNatClampNeg + nn.toNatClampNeg ≤ n1) (hd : decode b pc = .ok (.invokestatic idx, 3)) (hfr : 1 ≤ R.frames) (hlo : (st.map fun v => v.category).sum + (nativeFrameWords "java/lang/System" "arraycopy" 5 + 11) ≤ R.locals) (hm : μ' = setA μ a1 (va_cpy (μ.1 a0) (μ.1 a1) sp.toNatClampNeg dp.toNatClampNeg nn.toNatClampNeg)) (kk : AW p l e R s m args below meth c nL D cI cL ad A cs sl Q (pc + 3) lv st μ') : AW p l e R s m args below meth c nL D cI cL ad A cs sl Q pc lv (.int nn :: .int dp :: .ref (ad a1) :: .int sp :: .ref (ad a0) :: st) μ := fun H locs ls hR hl => va_copyi C.1 C.2.1 (C.2.2.1.trans hl.1.symm) C.2.2.2.1 (C.2.2.2.2.1 _ hlk) (C.2.2.2.2.1 _ h2) (C.2.2.2.2.1 _ h3) (C.2.2.2.2.1 _ h4) C.2.2.2.2.2.2.2.1 hR.1 hR.2.1 hR.2.2.1 a0 a1 0 0 (ws_arr hk0) (ws_arr hk1) (ty := .int) rfl rfl rfl c1 c2 c3 c4 c5 (fun _ _ => rfl) hfr hlo hd (fun H1 locs1 hP hD hS => by rw [ws_setA hk1] at hP hD; subst hm; exact kk H1 locs1 ls ⟨hP, hD, hS, hR.2.2.2⟩ hl)
end AWM
section AWN
variable {p : Program} {l : Launch} {e : Env} {R : Room} {s : State} {m : MethodId} {args : Array Value} {below : List Frame} {meth : Method} {c : Code} {nL : Nat} {D : va_G} {cI cL : ClassId} {ad : Nat → Nat} {A : Nat → Prop} {cs sl : Nat} {Q : State → Prop} {pc : Nat} {lv lv' : List (Nat × Value)} {st rest : List Value} {μ μ' : Mm}  {b : ByteArray} {idx : Nat} {ret : Option FieldType}
theorem inX3 : ∀ w ∈ u_ws RX3 TX3 3, w ∈ WS := by decide +kernel
theorem aw_getNow (C : CX p l s m args meth c RX3 b nL ret D cI cL A) (hlk : Cond.fieldLink RX3 idx (TX3 1).1 (TX3 1).2.1 (TX3 1).2.2.1 ∈ WS) (hd : decode b pc = .ok (.getfield idx, 3)) (kk : isF (mNow μ) → AW p l e R s m args below meth c nL D cI cL ad A cs sl Q (pc + 3) lv (.ref (ad (mNow μ)) :: st) μ) : AW p l e R s m args below meth c nL D cI cL ad A cs sl Q pc lv (.ref (ad 0) :: st) μ := fun H locs ls hR hl => aw_get C (a := 0) (k := 1) inX3 rfl rfl (by decide) hlk hd rfl (kk hR.2.2.2.1) H locs ls hR hl
theorem aw_putNow (C : CX p l s m args meth c RX3 b nL ret D cI cL A) {x : Nat} (hlk : Cond.fieldLink RX3 idx (TX3 1).1 (TX3 1).2.1 (TX3 1).2.2.1 ∈ WS) (hF : isF x) (hd : decode b pc = .ok (.putfield idx, 3)) (hm : μ' = setNow μ x) (kk : AW p l e R s m args below meth c nL D cI cL ad A cs sl Q (pc + 3) lv st μ') : AW p l e R s m args below meth c nL D cI cL ad A cs sl Q pc lv (.ref (ad x) :: .ref (ad 0) :: st) μ := aw_putV C (a := 0) (k := 1) (ty := .object "NameScopes$Facts") inX3 tyX3 tyX3_ok nmX3 rfl rfl (by decide) hlk rfl (by decide +kernel) rfl rfl (by show 1 < 3; decide) hd (fun h => by subst hm; exact ⟨hF, h.2⟩) (by subst hm; exact ws_now) kk
theorem aw_getOth (C : CX p l s m args meth c RX3 b nL ret D cI cL A) (hlk : Cond.fieldLink RX3 idx (TX3 2).1 (TX3 2).2.1 (TX3 2).2.2.1 ∈ WS) (hd : decode b pc = .ok (.getfield idx, 3)) (kk : isF (mOth μ) → AW p l e R s m args below meth c nL D cI cL ad A cs sl Q (pc + 3) lv (.ref (ad (mOth μ)) :: st) μ) : AW p l e R s m args below meth c nL D cI cL ad A cs sl Q pc lv (.ref (ad 0) :: st) μ := fun H locs ls hR hl => aw_get C (a := 0) (k := 2) inX3 rfl rfl (by decide) hlk hd rfl (kk hR.2.2.2.2) H locs ls hR hl
theorem aw_putOth (C : CX p l s m args meth c RX3 b nL ret D cI cL A) {x : Nat} (hlk : Cond.fieldLink RX3 idx (TX3 2).1 (TX3 2).2.1 (TX3 2).2.2.1 ∈ WS) (hF : isF x) (hd : decode b pc = .ok (.putfield idx, 3)) (hm : μ' = setOth μ x) (kk : AW p l e R s m args below meth c nL D cI cL ad A cs sl Q (pc + 3) lv st μ') : AW p l e R s m args below meth c nL D cI cL ad A cs sl Q pc lv (.ref (ad x) :: .ref (ad 0) :: st) μ := aw_putV C (a := 0) (k := 2) (ty := .object "NameScopes$Facts") inX3 tyX3 tyX3_ok nmX3 rfl rfl (by decide) hlk rfl (by decide +kernel) rfl rfl (by show 2 < 3; decide) hd (fun h => by subst hm; exact ⟨h.1, hF⟩) (by subst hm; exact ws_oth) kk
end AWN
end
