section
-- ===== PART A: goes FIRST, ahead of the names: the tables' words, and 'selects' of the private methods out of them =====
/-- a private method of a class that the tables say can be made, by its rows of tables_1 -/
def lw_okq (q : MethodName × Nat) : Prop := (q.1.cls ≠ "java/lang/invoke/MethodHandle" ∧ q.1.cls ≠ "java/lang/invoke/VarHandle") ∧ Cond.instantiable q.1.cls q.2 ∈ tables_1 ∧ Cond.privateMethod q.1 ∈ tables_1 ∧ Cond.instanceMethod q.1 ∈ tables_1
theorem lw_p0 : lw_okq (⟨"IfYouWill$Reader", "split", "()V"⟩, 14) := ⟨⟨by decide +kernel, by decide +kernel⟩, List.mem_of_getElem? (i := 43) (by decide +kernel), List.mem_of_getElem? (i := 316) (by decide +kernel), List.mem_of_getElem? (i := 317) (by decide +kernel)⟩
theorem lw_p1 : lw_okq (⟨"IfYouWill$Reader", "addToken", "(III)V"⟩, 14) := ⟨⟨by decide +kernel, by decide +kernel⟩, List.mem_of_getElem? (i := 43) (by decide +kernel), List.mem_of_getElem? (i := 323) (by decide +kernel), List.mem_of_getElem? (i := 324) (by decide +kernel)⟩
theorem lw_p2 : lw_okq (⟨"IfYouWill$Reader", "readRule", "()Z"⟩, 14) := ⟨⟨by decide +kernel, by decide +kernel⟩, List.mem_of_getElem? (i := 43) (by decide +kernel), List.mem_of_getElem? (i := 327) (by decide +kernel), List.mem_of_getElem? (i := 328) (by decide +kernel)⟩
theorem lw_p3 : lw_okq (⟨"IfYouWill$Reader", "readMuch", "()Z"⟩, 14) := ⟨⟨by decide +kernel, by decide +kernel⟩, List.mem_of_getElem? (i := 43) (by decide +kernel), List.mem_of_getElem? (i := 331) (by decide +kernel), List.mem_of_getElem? (i := 332) (by decide +kernel)⟩
theorem lw_p4 : lw_okq (⟨"IfYouWill$Reader", "takes", "(Ljava/lang/String;)Z"⟩, 14) := ⟨⟨by decide +kernel, by decide +kernel⟩, List.mem_of_getElem? (i := 43) (by decide +kernel), List.mem_of_getElem? (i := 336) (by decide +kernel), List.mem_of_getElem? (i := 337) (by decide +kernel)⟩
theorem lw_p5 : lw_okq (⟨"IfYouWill$Reader", "isWord", "(Ljava/lang/String;)Z"⟩, 14) := ⟨⟨by decide +kernel, by decide +kernel⟩, List.mem_of_getElem? (i := 43) (by decide +kernel), List.mem_of_getElem? (i := 340) (by decide +kernel), List.mem_of_getElem? (i := 341) (by decide +kernel)⟩
theorem lw_p6 : lw_okq (⟨"IfYouWill$Reader", "readNumber", "(II)Z"⟩, 14) := ⟨⟨by decide +kernel, by decide +kernel⟩, List.mem_of_getElem? (i := 43) (by decide +kernel), List.mem_of_getElem? (i := 394) (by decide +kernel), List.mem_of_getElem? (i := 395) (by decide +kernel)⟩
theorem lw_p7 : lw_okq (⟨"IfYouWill$Reader", "fails", "(I)Z"⟩, 14) := ⟨⟨by decide +kernel, by decide +kernel⟩, List.mem_of_getElem? (i := 43) (by decide +kernel), List.mem_of_getElem? (i := 398) (by decide +kernel), List.mem_of_getElem? (i := 399) (by decide +kernel)⟩
theorem lw_p8 : lw_okq (⟨"IfYouWill$Reader", "readSome", "(I)Z"⟩, 14) := ⟨⟨by decide +kernel, by decide +kernel⟩, List.mem_of_getElem? (i := 43) (by decide +kernel), List.mem_of_getElem? (i := 404) (by decide +kernel), List.mem_of_getElem? (i := 405) (by decide +kernel)⟩
theorem lw_p9 : lw_okq (⟨"IfYouWill$Reader", "readOne", "(I)Z"⟩, 14) := ⟨⟨by decide +kernel, by decide +kernel⟩, List.mem_of_getElem? (i := 43) (by decide +kernel), List.mem_of_getElem? (i := 408) (by decide +kernel), List.mem_of_getElem? (i := 409) (by decide +kernel)⟩
theorem lw_p10 : lw_okq (⟨"IfYouWill$Reader", "isSign", "(C)Z"⟩, 14) := ⟨⟨by decide +kernel, by decide +kernel⟩, List.mem_of_getElem? (i := 43) (by decide +kernel), List.mem_of_getElem? (i := 413) (by decide +kernel), List.mem_of_getElem? (i := 414) (by decide +kernel)⟩
theorem lw_p11 : lw_okq (⟨"IfYouWill$Reader", "readDeeper", "(I)Z"⟩, 14) := ⟨⟨by decide +kernel, by decide +kernel⟩, List.mem_of_getElem? (i := 43) (by decide +kernel), List.mem_of_getElem? (i := 417) (by decide +kernel), List.mem_of_getElem? (i := 418) (by decide +kernel)⟩
theorem lw_p12 : lw_okq (⟨"IfYouWill$Term", "addNumber", "(II)V"⟩, 11) := ⟨⟨by decide +kernel, by decide +kernel⟩, List.mem_of_getElem? (i := 49) (by decide +kernel), List.mem_of_getElem? (i := 425) (by decide +kernel), List.mem_of_getElem? (i := 426) (by decide +kernel)⟩
theorem lw_p13 : lw_okq (⟨"IfYouWill$Reader", "forgetParts", "()V"⟩, 14) := ⟨⟨by decide +kernel, by decide +kernel⟩, List.mem_of_getElem? (i := 43) (by decide +kernel), List.mem_of_getElem? (i := 429) (by decide +kernel), List.mem_of_getElem? (i := 430) (by decide +kernel)⟩
theorem lw_p14 : lw_okq (⟨"IfYouWill$Reader", "readPerson", "()Z"⟩, 14) := ⟨⟨by decide +kernel, by decide +kernel⟩, List.mem_of_getElem? (i := 43) (by decide +kernel), List.mem_of_getElem? (i := 434) (by decide +kernel), List.mem_of_getElem? (i := 435) (by decide +kernel)⟩
theorem lw_p15 : lw_okq (⟨"IfYouWill$Reader", "readGive", "(Ljava/lang/String;)Z"⟩, 14) := ⟨⟨by decide +kernel, by decide +kernel⟩, List.mem_of_getElem? (i := 43) (by decide +kernel), List.mem_of_getElem? (i := 439) (by decide +kernel), List.mem_of_getElem? (i := 440) (by decide +kernel)⟩
def lw_privs_1 : List (MethodName × Nat) := [(⟨"IfYouWill$Reader", "split", "()V"⟩, 14), (⟨"IfYouWill$Reader", "addToken", "(III)V"⟩, 14), (⟨"IfYouWill$Reader", "readRule", "()Z"⟩, 14), (⟨"IfYouWill$Reader", "readMuch", "()Z"⟩, 14), (⟨"IfYouWill$Reader", "takes", "(Ljava/lang/String;)Z"⟩, 14), (⟨"IfYouWill$Reader", "isWord", "(Ljava/lang/String;)Z"⟩, 14), (⟨"IfYouWill$Reader", "readNumber", "(II)Z"⟩, 14), (⟨"IfYouWill$Reader", "fails", "(I)Z"⟩, 14), (⟨"IfYouWill$Reader", "readSome", "(I)Z"⟩, 14), (⟨"IfYouWill$Reader", "readOne", "(I)Z"⟩, 14), (⟨"IfYouWill$Reader", "isSign", "(C)Z"⟩, 14), (⟨"IfYouWill$Reader", "readDeeper", "(I)Z"⟩, 14), (⟨"IfYouWill$Term", "addNumber", "(II)V"⟩, 11), (⟨"IfYouWill$Reader", "forgetParts", "()V"⟩, 14), (⟨"IfYouWill$Reader", "readPerson", "()Z"⟩, 14), (⟨"IfYouWill$Reader", "readGive", "(Ljava/lang/String;)Z"⟩, 14)]
theorem lw_r1 : ∀ q ∈ lw_privs_1, lw_okq q := List.forall_mem_cons.mpr ⟨lw_p0, List.forall_mem_cons.mpr ⟨lw_p1, List.forall_mem_cons.mpr ⟨lw_p2, List.forall_mem_cons.mpr ⟨lw_p3, List.forall_mem_cons.mpr ⟨lw_p4, List.forall_mem_cons.mpr ⟨lw_p5, List.forall_mem_cons.mpr ⟨lw_p6, List.forall_mem_cons.mpr ⟨lw_p7, List.forall_mem_cons.mpr ⟨lw_p8, List.forall_mem_cons.mpr ⟨lw_p9, List.forall_mem_cons.mpr ⟨lw_p10, List.forall_mem_cons.mpr ⟨lw_p11, List.forall_mem_cons.mpr ⟨lw_p12, List.forall_mem_cons.mpr ⟨lw_p13, List.forall_mem_cons.mpr ⟨lw_p14, List.forall_mem_cons.mpr ⟨lw_p15, fun _ h => absurd h List.not_mem_nil⟩⟩⟩⟩⟩⟩⟩⟩⟩⟩⟩⟩⟩⟩⟩⟩
theorem lw_p16 : lw_okq (⟨"IfYouWill$Reader", "adds", "(I)Z"⟩, 14) := ⟨⟨by decide +kernel, by decide +kernel⟩, List.mem_of_getElem? (i := 43) (by decide +kernel), List.mem_of_getElem? (i := 443) (by decide +kernel), List.mem_of_getElem? (i := 444) (by decide +kernel)⟩
theorem lw_p17 : lw_okq (⟨"IfYouWill$Reader", "readRange", "()Z"⟩, 14) := ⟨⟨by decide +kernel, by decide +kernel⟩, List.mem_of_getElem? (i := 43) (by decide +kernel), List.mem_of_getElem? (i := 448) (by decide +kernel), List.mem_of_getElem? (i := 449) (by decide +kernel)⟩
theorem lw_p18 : lw_okq (⟨"IfYouWill$Reader", "readMany", "(II)Z"⟩, 14) := ⟨⟨by decide +kernel, by decide +kernel⟩, List.mem_of_getElem? (i := 43) (by decide +kernel), List.mem_of_getElem? (i := 456) (by decide +kernel), List.mem_of_getElem? (i := 457) (by decide +kernel)⟩
theorem lw_p19 : lw_okq (⟨"IfYouWill$Term", "holds", "(IILIfYouWill$Scene;)Z"⟩, 11) := ⟨⟨by decide +kernel, by decide +kernel⟩, List.mem_of_getElem? (i := 49) (by decide +kernel), List.mem_of_getElem? (i := 501) (by decide +kernel), List.mem_of_getElem? (i := 502) (by decide +kernel)⟩
theorem lw_p20 : lw_okq (⟨"IfYouWill$Climbing", "next", "(IIII)I"⟩, 4) := ⟨⟨by decide +kernel, by decide +kernel⟩, List.mem_of_getElem? (i := 225) (by decide +kernel), List.mem_of_getElem? (i := 601) (by decide +kernel), List.mem_of_getElem? (i := 602) (by decide +kernel)⟩
theorem lw_p21 : lw_okq (⟨"IfYouWill$Term", "leastAt", "(I)I"⟩, 11) := ⟨⟨by decide +kernel, by decide +kernel⟩, List.mem_of_getElem? (i := 49) (by decide +kernel), List.mem_of_getElem? (i := 637) (by decide +kernel), List.mem_of_getElem? (i := 638) (by decide +kernel)⟩
theorem lw_p22 : lw_okq (⟨"IfYouWill$Bargain", "pledged", "(I)I"⟩, 1) := ⟨⟨by decide +kernel, by decide +kernel⟩, List.mem_of_getElem? (i := 247) (by decide +kernel), List.mem_of_getElem? (i := 675) (by decide +kernel), List.mem_of_getElem? (i := 676) (by decide +kernel)⟩
theorem lw_p23 : lw_okq (⟨"IfYouWill", "gain", "(III)I"⟩, 5) := ⟨⟨by decide +kernel, by decide +kernel⟩, List.mem_of_getElem? (i := 18) (by decide +kernel), List.mem_of_getElem? (i := 696) (by decide +kernel), List.mem_of_getElem? (i := 697) (by decide +kernel)⟩
theorem lw_p24 : lw_okq (⟨"IfYouWillModel", "begin", "(I)V"⟩, 50) := ⟨⟨by decide +kernel, by decide +kernel⟩, List.mem_of_getElem? (i := 713) (by decide +kernel), List.mem_of_getElem? (i := 719) (by decide +kernel), List.mem_of_getElem? (i := 720) (by decide +kernel)⟩
theorem lw_p25 : lw_okq (⟨"IfYouWillModel", "noPerson", "(I)Z"⟩, 50) := ⟨⟨by decide +kernel, by decide +kernel⟩, List.mem_of_getElem? (i := 713) (by decide +kernel), List.mem_of_getElem? (i := 893) (by decide +kernel), List.mem_of_getElem? (i := 894) (by decide +kernel)⟩
theorem lw_p26 : lw_okq (⟨"IfYouWillModel", "takeRule", "()V"⟩, 50) := ⟨⟨by decide +kernel, by decide +kernel⟩, List.mem_of_getElem? (i := 713) (by decide +kernel), List.mem_of_getElem? (i := 897) (by decide +kernel), List.mem_of_getElem? (i := 898) (by decide +kernel)⟩
theorem lw_p27 : lw_okq (⟨"IfYouWillModel", "here", "()I"⟩, 50) := ⟨⟨by decide +kernel, by decide +kernel⟩, List.mem_of_getElem? (i := 713) (by decide +kernel), List.mem_of_getElem? (i := 901) (by decide +kernel), List.mem_of_getElem? (i := 902) (by decide +kernel)⟩
theorem lw_p28 : lw_okq (⟨"IfYouWillModel", "takeNumber", "(II)I"⟩, 50) := ⟨⟨by decide +kernel, by decide +kernel⟩, List.mem_of_getElem? (i := 713) (by decide +kernel), List.mem_of_getElem? (i := 907) (by decide +kernel), List.mem_of_getElem? (i := 908) (by decide +kernel)⟩
theorem lw_p29 : lw_okq (⟨"IfYouWillModel", "want", "(ZII)Z"⟩, 50) := ⟨⟨by decide +kernel, by decide +kernel⟩, List.mem_of_getElem? (i := 713) (by decide +kernel), List.mem_of_getElem? (i := 911) (by decide +kernel), List.mem_of_getElem? (i := 912) (by decide +kernel)⟩
theorem lw_p30 : lw_okq (⟨"IfYouWillModel", "takeWord", "()V"⟩, 50) := ⟨⟨by decide +kernel, by decide +kernel⟩, List.mem_of_getElem? (i := 713) (by decide +kernel), List.mem_of_getElem? (i := 915) (by decide +kernel), List.mem_of_getElem? (i := 916) (by decide +kernel)⟩
theorem lw_p31 : lw_okq (⟨"IfYouWillModel", "isWord", "(IIIIII)Z"⟩, 50) := ⟨⟨by decide +kernel, by decide +kernel⟩, List.mem_of_getElem? (i := 713) (by decide +kernel), List.mem_of_getElem? (i := 921) (by decide +kernel), List.mem_of_getElem? (i := 922) (by decide +kernel)⟩
def lw_privs_2 : List (MethodName × Nat) := [(⟨"IfYouWill$Reader", "adds", "(I)Z"⟩, 14), (⟨"IfYouWill$Reader", "readRange", "()Z"⟩, 14), (⟨"IfYouWill$Reader", "readMany", "(II)Z"⟩, 14), (⟨"IfYouWill$Term", "holds", "(IILIfYouWill$Scene;)Z"⟩, 11), (⟨"IfYouWill$Climbing", "next", "(IIII)I"⟩, 4), (⟨"IfYouWill$Term", "leastAt", "(I)I"⟩, 11), (⟨"IfYouWill$Bargain", "pledged", "(I)I"⟩, 1), (⟨"IfYouWill", "gain", "(III)I"⟩, 5), (⟨"IfYouWillModel", "begin", "(I)V"⟩, 50), (⟨"IfYouWillModel", "noPerson", "(I)Z"⟩, 50), (⟨"IfYouWillModel", "takeRule", "()V"⟩, 50), (⟨"IfYouWillModel", "here", "()I"⟩, 50), (⟨"IfYouWillModel", "takeNumber", "(II)I"⟩, 50), (⟨"IfYouWillModel", "want", "(ZII)Z"⟩, 50), (⟨"IfYouWillModel", "takeWord", "()V"⟩, 50), (⟨"IfYouWillModel", "isWord", "(IIIIII)Z"⟩, 50)]
theorem lw_r2 : ∀ q ∈ lw_privs_2, lw_okq q := List.forall_mem_cons.mpr ⟨lw_p16, List.forall_mem_cons.mpr ⟨lw_p17, List.forall_mem_cons.mpr ⟨lw_p18, List.forall_mem_cons.mpr ⟨lw_p19, List.forall_mem_cons.mpr ⟨lw_p20, List.forall_mem_cons.mpr ⟨lw_p21, List.forall_mem_cons.mpr ⟨lw_p22, List.forall_mem_cons.mpr ⟨lw_p23, List.forall_mem_cons.mpr ⟨lw_p24, List.forall_mem_cons.mpr ⟨lw_p25, List.forall_mem_cons.mpr ⟨lw_p26, List.forall_mem_cons.mpr ⟨lw_p27, List.forall_mem_cons.mpr ⟨lw_p28, List.forall_mem_cons.mpr ⟨lw_p29, List.forall_mem_cons.mpr ⟨lw_p30, List.forall_mem_cons.mpr ⟨lw_p31, fun _ h => absurd h List.not_mem_nil⟩⟩⟩⟩⟩⟩⟩⟩⟩⟩⟩⟩⟩⟩⟩⟩
theorem lw_p32 : lw_okq (⟨"IfYouWillModel", "takes", "(IIIIII)Z"⟩, 50) := ⟨⟨by decide +kernel, by decide +kernel⟩, List.mem_of_getElem? (i := 713) (by decide +kernel), List.mem_of_getElem? (i := 925) (by decide +kernel), List.mem_of_getElem? (i := 926) (by decide +kernel)⟩
theorem lw_p33 : lw_okq (⟨"IfYouWillModel", "takeSome", "()V"⟩, 50) := ⟨⟨by decide +kernel, by decide +kernel⟩, List.mem_of_getElem? (i := 713) (by decide +kernel), List.mem_of_getElem? (i := 929) (by decide +kernel), List.mem_of_getElem? (i := 930) (by decide +kernel)⟩
theorem lw_p34 : lw_okq (⟨"IfYouWillModel", "takeHead", "()V"⟩, 50) := ⟨⟨by decide +kernel, by decide +kernel⟩, List.mem_of_getElem? (i := 713) (by decide +kernel), List.mem_of_getElem? (i := 933) (by decide +kernel), List.mem_of_getElem? (i := 934) (by decide +kernel)⟩
theorem lw_p35 : lw_okq (⟨"IfYouWillModel", "open", "()I"⟩, 50) := ⟨⟨by decide +kernel, by decide +kernel⟩, List.mem_of_getElem? (i := 713) (by decide +kernel), List.mem_of_getElem? (i := 937) (by decide +kernel), List.mem_of_getElem? (i := 938) (by decide +kernel)⟩
theorem lw_p36 : lw_okq (⟨"IfYouWillModel", "push", "(I)V"⟩, 50) := ⟨⟨by decide +kernel, by decide +kernel⟩, List.mem_of_getElem? (i := 713) (by decide +kernel), List.mem_of_getElem? (i := 944) (by decide +kernel), List.mem_of_getElem? (i := 945) (by decide +kernel)⟩
theorem lw_p37 : lw_okq (⟨"IfYouWillModel", "takeOne", "(I)V"⟩, 50) := ⟨⟨by decide +kernel, by decide +kernel⟩, List.mem_of_getElem? (i := 713) (by decide +kernel), List.mem_of_getElem? (i := 948) (by decide +kernel), List.mem_of_getElem? (i := 949) (by decide +kernel)⟩
theorem lw_p38 : lw_okq (⟨"IfYouWillModel", "addSign", "(I)V"⟩, 50) := ⟨⟨by decide +kernel, by decide +kernel⟩, List.mem_of_getElem? (i := 713) (by decide +kernel), List.mem_of_getElem? (i := 952) (by decide +kernel), List.mem_of_getElem? (i := 953) (by decide +kernel)⟩
theorem lw_p39 : lw_okq (⟨"IfYouWillModel", "takeSpan", "()V"⟩, 50) := ⟨⟨by decide +kernel, by decide +kernel⟩, List.mem_of_getElem? (i := 713) (by decide +kernel), List.mem_of_getElem? (i := 956) (by decide +kernel), List.mem_of_getElem? (i := 957) (by decide +kernel)⟩
theorem lw_p40 : lw_okq (⟨"IfYouWillModel", "endOne", "()V"⟩, 50) := ⟨⟨by decide +kernel, by decide +kernel⟩, List.mem_of_getElem? (i := 713) (by decide +kernel), List.mem_of_getElem? (i := 960) (by decide +kernel), List.mem_of_getElem? (i := 961) (by decide +kernel)⟩
theorem lw_p41 : lw_okq (⟨"IfYouWillModel", "pop", "()V"⟩, 50) := ⟨⟨by decide +kernel, by decide +kernel⟩, List.mem_of_getElem? (i := 713) (by decide +kernel), List.mem_of_getElem? (i := 964) (by decide +kernel), List.mem_of_getElem? (i := 965) (by decide +kernel)⟩
theorem lw_p42 : lw_okq (⟨"IfYouWillModel", "closeAll", "()V"⟩, 50) := ⟨⟨by decide +kernel, by decide +kernel⟩, List.mem_of_getElem? (i := 713) (by decide +kernel), List.mem_of_getElem? (i := 968) (by decide +kernel), List.mem_of_getElem? (i := 969) (by decide +kernel)⟩
theorem lw_p43 : lw_okq (⟨"IfYouWillModel", "hasOpen", "()Z"⟩, 50) := ⟨⟨by decide +kernel, by decide +kernel⟩, List.mem_of_getElem? (i := 713) (by decide +kernel), List.mem_of_getElem? (i := 972) (by decide +kernel), List.mem_of_getElem? (i := 973) (by decide +kernel)⟩
theorem lw_p44 : lw_okq (⟨"IfYouWillModel", "noRow", "(I)Z"⟩, 50) := ⟨⟨by decide +kernel, by decide +kernel⟩, List.mem_of_getElem? (i := 713) (by decide +kernel), List.mem_of_getElem? (i := 984) (by decide +kernel), List.mem_of_getElem? (i := 985) (by decide +kernel)⟩
theorem lw_p45 : lw_okq (⟨"IfYouWillModel", "allRows", "()I"⟩, 50) := ⟨⟨by decide +kernel, by decide +kernel⟩, List.mem_of_getElem? (i := 713) (by decide +kernel), List.mem_of_getElem? (i := 988) (by decide +kernel), List.mem_of_getElem? (i := 989) (by decide +kernel)⟩
theorem lw_p46 : lw_okq (⟨"IfYouWillModel", "letBy", "(III)I"⟩, 50) := ⟨⟨by decide +kernel, by decide +kernel⟩, List.mem_of_getElem? (i := 713) (by decide +kernel), List.mem_of_getElem? (i := 996) (by decide +kernel), List.mem_of_getElem? (i := 997) (by decide +kernel)⟩
theorem lw_p47 : lw_okq (⟨"IfYouWillModel", "holds", "(IIII)Z"⟩, 50) := ⟨⟨by decide +kernel, by decide +kernel⟩, List.mem_of_getElem? (i := 713) (by decide +kernel), List.mem_of_getElem? (i := 1000) (by decide +kernel), List.mem_of_getElem? (i := 1001) (by decide +kernel)⟩
def lw_privs_3 : List (MethodName × Nat) := [(⟨"IfYouWillModel", "takes", "(IIIIII)Z"⟩, 50), (⟨"IfYouWillModel", "takeSome", "()V"⟩, 50), (⟨"IfYouWillModel", "takeHead", "()V"⟩, 50), (⟨"IfYouWillModel", "open", "()I"⟩, 50), (⟨"IfYouWillModel", "push", "(I)V"⟩, 50), (⟨"IfYouWillModel", "takeOne", "(I)V"⟩, 50), (⟨"IfYouWillModel", "addSign", "(I)V"⟩, 50), (⟨"IfYouWillModel", "takeSpan", "()V"⟩, 50), (⟨"IfYouWillModel", "endOne", "()V"⟩, 50), (⟨"IfYouWillModel", "pop", "()V"⟩, 50), (⟨"IfYouWillModel", "closeAll", "()V"⟩, 50), (⟨"IfYouWillModel", "hasOpen", "()Z"⟩, 50), (⟨"IfYouWillModel", "noRow", "(I)Z"⟩, 50), (⟨"IfYouWillModel", "allRows", "()I"⟩, 50), (⟨"IfYouWillModel", "letBy", "(III)I"⟩, 50), (⟨"IfYouWillModel", "holds", "(IIII)Z"⟩, 50)]
theorem lw_r3 : ∀ q ∈ lw_privs_3, lw_okq q := List.forall_mem_cons.mpr ⟨lw_p32, List.forall_mem_cons.mpr ⟨lw_p33, List.forall_mem_cons.mpr ⟨lw_p34, List.forall_mem_cons.mpr ⟨lw_p35, List.forall_mem_cons.mpr ⟨lw_p36, List.forall_mem_cons.mpr ⟨lw_p37, List.forall_mem_cons.mpr ⟨lw_p38, List.forall_mem_cons.mpr ⟨lw_p39, List.forall_mem_cons.mpr ⟨lw_p40, List.forall_mem_cons.mpr ⟨lw_p41, List.forall_mem_cons.mpr ⟨lw_p42, List.forall_mem_cons.mpr ⟨lw_p43, List.forall_mem_cons.mpr ⟨lw_p44, List.forall_mem_cons.mpr ⟨lw_p45, List.forall_mem_cons.mpr ⟨lw_p46, List.forall_mem_cons.mpr ⟨lw_p47, fun _ h => absurd h List.not_mem_nil⟩⟩⟩⟩⟩⟩⟩⟩⟩⟩⟩⟩⟩⟩⟩⟩
theorem lw_p48 : lw_okq (⟨"IfYouWillModel", "oneHolds", "(IIII)Z"⟩, 50) := ⟨⟨by decide +kernel, by decide +kernel⟩, List.mem_of_getElem? (i := 713) (by decide +kernel), List.mem_of_getElem? (i := 1004) (by decide +kernel), List.mem_of_getElem? (i := 1005) (by decide +kernel)⟩
theorem lw_p49 : lw_okq (⟨"IfYouWillModel", "muchBy", "(III)I"⟩, 50) := ⟨⟨by decide +kernel, by decide +kernel⟩, List.mem_of_getElem? (i := 713) (by decide +kernel), List.mem_of_getElem? (i := 1011) (by decide +kernel), List.mem_of_getElem? (i := 1012) (by decide +kernel)⟩
theorem lw_p50 : lw_okq (⟨"IfYouWillModel", "rulesAll", "()I"⟩, 50) := ⟨⟨by decide +kernel, by decide +kernel⟩, List.mem_of_getElem? (i := 713) (by decide +kernel), List.mem_of_getElem? (i := 1019) (by decide +kernel), List.mem_of_getElem? (i := 1020) (by decide +kernel)⟩
theorem lw_p51 : lw_okq (⟨"IfYouWillModel", "growing", "()I"⟩, 50) := ⟨⟨by decide +kernel, by decide +kernel⟩, List.mem_of_getElem? (i := 713) (by decide +kernel), List.mem_of_getElem? (i := 1023) (by decide +kernel), List.mem_of_getElem? (i := 1024) (by decide +kernel)⟩
theorem lw_p52 : lw_okq (⟨"IfYouWillModel", "slips", "(II)Z"⟩, 50) := ⟨⟨by decide +kernel, by decide +kernel⟩, List.mem_of_getElem? (i := 713) (by decide +kernel), List.mem_of_getElem? (i := 1027) (by decide +kernel), List.mem_of_getElem? (i := 1028) (by decide +kernel)⟩
theorem lw_p53 : lw_okq (⟨"IfYouWillModel", "notSo", "(III)I"⟩, 50) := ⟨⟨by decide +kernel, by decide +kernel⟩, List.mem_of_getElem? (i := 713) (by decide +kernel), List.mem_of_getElem? (i := 1040) (by decide +kernel), List.mem_of_getElem? (i := 1041) (by decide +kernel)⟩
theorem lw_p54 : lw_okq (⟨"IfYouWillModel", "mayBe", "(II)I"⟩, 50) := ⟨⟨by decide +kernel, by decide +kernel⟩, List.mem_of_getElem? (i := 713) (by decide +kernel), List.mem_of_getElem? (i := 1048) (by decide +kernel), List.mem_of_getElem? (i := 1049) (by decide +kernel)⟩
theorem lw_p55 : lw_okq (⟨"IfYouWillModel", "sumOf", "(I)I"⟩, 50) := ⟨⟨by decide +kernel, by decide +kernel⟩, List.mem_of_getElem? (i := 713) (by decide +kernel), List.mem_of_getElem? (i := 1056) (by decide +kernel), List.mem_of_getElem? (i := 1057) (by decide +kernel)⟩
theorem lw_p56 : lw_okq (⟨"IfYouWillModel", "goUp", "(II)V"⟩, 50) := ⟨⟨by decide +kernel, by decide +kernel⟩, List.mem_of_getElem? (i := 713) (by decide +kernel), List.mem_of_getElem? (i := 1065) (by decide +kernel), List.mem_of_getElem? (i := 1066) (by decide +kernel)⟩
theorem lw_p57 : lw_okq (⟨"IfYouWillModel", "nextRow", "(II)I"⟩, 50) := ⟨⟨by decide +kernel, by decide +kernel⟩, List.mem_of_getElem? (i := 713) (by decide +kernel), List.mem_of_getElem? (i := 1069) (by decide +kernel), List.mem_of_getElem? (i := 1070) (by decide +kernel)⟩
theorem lw_p58 : lw_okq (⟨"IfYouWillModel", "softBy", "(II)I"⟩, 50) := ⟨⟨by decide +kernel, by decide +kernel⟩, List.mem_of_getElem? (i := 713) (by decide +kernel), List.mem_of_getElem? (i := 1085) (by decide +kernel), List.mem_of_getElem? (i := 1086) (by decide +kernel)⟩
theorem lw_p59 : lw_okq (⟨"IfYouWillModel", "isLet", "(II)Z"⟩, 50) := ⟨⟨by decide +kernel, by decide +kernel⟩, List.mem_of_getElem? (i := 713) (by decide +kernel), List.mem_of_getElem? (i := 1089) (by decide +kernel), List.mem_of_getElem? (i := 1090) (by decide +kernel)⟩
theorem lw_p60 : lw_okq (⟨"IfYouWillModel", "findSlots", "(I)V"⟩, 50) := ⟨⟨by decide +kernel, by decide +kernel⟩, List.mem_of_getElem? (i := 713) (by decide +kernel), List.mem_of_getElem? (i := 1093) (by decide +kernel), List.mem_of_getElem? (i := 1094) (by decide +kernel)⟩
theorem lw_p61 : lw_okq (⟨"IfYouWillModel", "doesSoft", "(III)Z"⟩, 50) := ⟨⟨by decide +kernel, by decide +kernel⟩, List.mem_of_getElem? (i := 713) (by decide +kernel), List.mem_of_getElem? (i := 1097) (by decide +kernel), List.mem_of_getElem? (i := 1098) (by decide +kernel)⟩
theorem lw_p62 : lw_okq (⟨"IfYouWillModel", "soften", "(III)Z"⟩, 50) := ⟨⟨by decide +kernel, by decide +kernel⟩, List.mem_of_getElem? (i := 713) (by decide +kernel), List.mem_of_getElem? (i := 1101) (by decide +kernel), List.mem_of_getElem? (i := 1102) (by decide +kernel)⟩
theorem lw_p63 : lw_okq (⟨"IfYouWillModel", "rowBy", "(I)I"⟩, 50) := ⟨⟨by decide +kernel, by decide +kernel⟩, List.mem_of_getElem? (i := 713) (by decide +kernel), List.mem_of_getElem? (i := 1109) (by decide +kernel), List.mem_of_getElem? (i := 1110) (by decide +kernel)⟩
def lw_privs_4 : List (MethodName × Nat) := [(⟨"IfYouWillModel", "oneHolds", "(IIII)Z"⟩, 50), (⟨"IfYouWillModel", "muchBy", "(III)I"⟩, 50), (⟨"IfYouWillModel", "rulesAll", "()I"⟩, 50), (⟨"IfYouWillModel", "growing", "()I"⟩, 50), (⟨"IfYouWillModel", "slips", "(II)Z"⟩, 50), (⟨"IfYouWillModel", "notSo", "(III)I"⟩, 50), (⟨"IfYouWillModel", "mayBe", "(II)I"⟩, 50), (⟨"IfYouWillModel", "sumOf", "(I)I"⟩, 50), (⟨"IfYouWillModel", "goUp", "(II)V"⟩, 50), (⟨"IfYouWillModel", "nextRow", "(II)I"⟩, 50), (⟨"IfYouWillModel", "softBy", "(II)I"⟩, 50), (⟨"IfYouWillModel", "isLet", "(II)Z"⟩, 50), (⟨"IfYouWillModel", "findSlots", "(I)V"⟩, 50), (⟨"IfYouWillModel", "doesSoft", "(III)Z"⟩, 50), (⟨"IfYouWillModel", "soften", "(III)Z"⟩, 50), (⟨"IfYouWillModel", "rowBy", "(I)I"⟩, 50)]
theorem lw_r4 : ∀ q ∈ lw_privs_4, lw_okq q := List.forall_mem_cons.mpr ⟨lw_p48, List.forall_mem_cons.mpr ⟨lw_p49, List.forall_mem_cons.mpr ⟨lw_p50, List.forall_mem_cons.mpr ⟨lw_p51, List.forall_mem_cons.mpr ⟨lw_p52, List.forall_mem_cons.mpr ⟨lw_p53, List.forall_mem_cons.mpr ⟨lw_p54, List.forall_mem_cons.mpr ⟨lw_p55, List.forall_mem_cons.mpr ⟨lw_p56, List.forall_mem_cons.mpr ⟨lw_p57, List.forall_mem_cons.mpr ⟨lw_p58, List.forall_mem_cons.mpr ⟨lw_p59, List.forall_mem_cons.mpr ⟨lw_p60, List.forall_mem_cons.mpr ⟨lw_p61, List.forall_mem_cons.mpr ⟨lw_p62, List.forall_mem_cons.mpr ⟨lw_p63, fun _ h => absurd h List.not_mem_nil⟩⟩⟩⟩⟩⟩⟩⟩⟩⟩⟩⟩⟩⟩⟩⟩
theorem lw_p64 : lw_okq (⟨"IfYouWillModel", "isResting", "(III)Z"⟩, 50) := ⟨⟨by decide +kernel, by decide +kernel⟩, List.mem_of_getElem? (i := 713) (by decide +kernel), List.mem_of_getElem? (i := 1130) (by decide +kernel), List.mem_of_getElem? (i := 1131) (by decide +kernel)⟩
theorem lw_p65 : lw_okq (⟨"IfYouWillModel", "hasBy", "(IIII)I"⟩, 50) := ⟨⟨by decide +kernel, by decide +kernel⟩, List.mem_of_getElem? (i := 713) (by decide +kernel), List.mem_of_getElem? (i := 1134) (by decide +kernel), List.mem_of_getElem? (i := 1135) (by decide +kernel)⟩
theorem lw_p66 : lw_okq (⟨"IfYouWillModel", "comes", "(II)Z"⟩, 50) := ⟨⟨by decide +kernel, by decide +kernel⟩, List.mem_of_getElem? (i := 713) (by decide +kernel), List.mem_of_getElem? (i := 1138) (by decide +kernel), List.mem_of_getElem? (i := 1139) (by decide +kernel)⟩
theorem lw_p67 : lw_okq (⟨"IfYouWillModel", "hasByWord", "(III)I"⟩, 50) := ⟨⟨by decide +kernel, by decide +kernel⟩, List.mem_of_getElem? (i := 713) (by decide +kernel), List.mem_of_getElem? (i := 1151) (by decide +kernel), List.mem_of_getElem? (i := 1152) (by decide +kernel)⟩
theorem lw_p68 : lw_okq (⟨"IfYouWillModel", "noSet", "(I)Z"⟩, 50) := ⟨⟨by decide +kernel, by decide +kernel⟩, List.mem_of_getElem? (i := 713) (by decide +kernel), List.mem_of_getElem? (i := 1159) (by decide +kernel), List.mem_of_getElem? (i := 1160) (by decide +kernel)⟩
def lw_privs_5 : List (MethodName × Nat) := [(⟨"IfYouWillModel", "isResting", "(III)Z"⟩, 50), (⟨"IfYouWillModel", "hasBy", "(IIII)I"⟩, 50), (⟨"IfYouWillModel", "comes", "(II)Z"⟩, 50), (⟨"IfYouWillModel", "hasByWord", "(III)I"⟩, 50), (⟨"IfYouWillModel", "noSet", "(I)Z"⟩, 50)]
theorem lw_r5 : ∀ q ∈ lw_privs_5, lw_okq q := List.forall_mem_cons.mpr ⟨lw_p64, List.forall_mem_cons.mpr ⟨lw_p65, List.forall_mem_cons.mpr ⟨lw_p66, List.forall_mem_cons.mpr ⟨lw_p67, List.forall_mem_cons.mpr ⟨lw_p68, fun _ h => absurd h List.not_mem_nil⟩⟩⟩⟩⟩
def lw_privs : List (MethodName × Nat) := lw_privs_1 ++ (lw_privs_2 ++ (lw_privs_3 ++ (lw_privs_4 ++ (lw_privs_5))))
def lw_tbl : List Cond := k2_sels lw_privs ++ tables_1
theorem lw_privs_ok : ∀ q ∈ lw_privs, lw_okq q := by
  show ∀ q ∈ lw_privs_1 ++ (lw_privs_2 ++ (lw_privs_3 ++ (lw_privs_4 ++ (lw_privs_5)))), lw_okq q
  exact List.forall_mem_append.mpr ⟨lw_r1, List.forall_mem_append.mpr ⟨lw_r2, List.forall_mem_append.mpr ⟨lw_r3, List.forall_mem_append.mpr ⟨lw_r4, lw_r5⟩⟩⟩⟩
-- ===== end of PART A; then your names; then what follows =====
end
section
def RX0 : String := "IfYouWill$Bargain"
def TX0 : u_T := fun k => match k with
  | _ => ("IfYouWill$Bargain", "village", "LIfYouWill$Village;", true)
def tyX0 : Nat → FieldType := fun k => match k with
  | _ => .object "IfYouWill$Village"
abbrev wsX00 : List Cond := u_ws RX0 TX0 1
theorem nmX0 : ∀ a, a < 1 → ∀ b, b < 1 → a ≠ b → (TX0 a).2.1 ≠ (TX0 b).2.1 := by decide +kernel
theorem tyX0_ok : ∀ k, k < 1 → parseFieldDescriptor (TX0 k).2.2.1 = some (tyX0 k) := by decide +kernel
def RX1 : String := "IfYouWill$Climbing"
def TX1 : u_T := fun k => match k with
  | 0 => ("IfYouWill$Climbing", "village", "LIfYouWill$Village;", true)
  | 1 => ("IfYouWill$Climbing", "rest", "I", false)
  | 2 => ("IfYouWill$Climbing", "steps", "I", false)
  | _ => ("IfYouWill$Climbing", "round", "I", false)
def tyX1 : Nat → FieldType := fun k => match k with
  | 0 => .object "IfYouWill$Village"
  | 1 => .int
  | 2 => .int
  | _ => .int
abbrev wsX10 : List Cond := u_ws RX1 TX1 4
theorem nmX1 : ∀ a, a < 4 → ∀ b, b < 4 → a ≠ b → (TX1 a).2.1 ≠ (TX1 b).2.1 := by decide +kernel
theorem tyX1_ok : ∀ k, k < 4 → parseFieldDescriptor (TX1 k).2.2.1 = some (tyX1 k) := by decide +kernel
def RX2 : String := "IfYouWill$Person"
def TX2 : u_T := fun k => match k with
  | 0 => ("IfYouWill$Person", "number", "I", true)
  | 1 => ("IfYouWill$Person", "scene", "LIfYouWill$Scene;", true)
  | 2 => ("IfYouWill$Person", "words", "LIfYouWill$Term;", false)
  | 3 => ("IfYouWill$Person", "part", "I", false)
  | 4 => ("IfYouWill$Person", "worth", "I", false)
  | 5 => ("IfYouWill$Person", "kept", "[I", true)
  | _ => ("IfYouWill$Person", "keptDay", "I", false)
def tyX2 : Nat → FieldType := fun k => match k with
  | 0 => .int
  | 1 => .object "IfYouWill$Scene"
  | 2 => .object "IfYouWill$Term"
  | 3 => .int
  | 4 => .int
  | 5 => .array .int
  | _ => .int
abbrev wsX20 : List Cond := u_ws RX2 TX2 7
theorem nmX2 : ∀ a, a < 7 → ∀ b, b < 7 → a ≠ b → (TX2 a).2.1 ≠ (TX2 b).2.1 := by decide +kernel
theorem tyX2_ok : ∀ k, k < 7 → parseFieldDescriptor (TX2 k).2.2.1 = some (tyX2 k) := by decide +kernel
def RX3 : String := "IfYouWill$Reader"
def TX3 : u_T := fun k => match k with
  | 0 => ("IfYouWill$Reader", "text", "LIfYouWill$Text;", true)
  | 1 => ("IfYouWill$Reader", "kinds", "[I", true)
  | 2 => ("IfYouWill$Reader", "starts", "[I", true)
  | 3 => ("IfYouWill$Reader", "stops", "[I", true)
  | 4 => ("IfYouWill$Reader", "tokens", "I", false)
  | 5 => ("IfYouWill$Reader", "now", "I", false)
  | 6 => ("IfYouWill$Reader", "number", "I", false)
  | 7 => ("IfYouWill$Reader", "many", "I", false)
  | 8 => ("IfYouWill$Reader", "from", "I", false)
  | 9 => ("IfYouWill$Reader", "to", "I", false)
  | 10 => ("IfYouWill$Reader", "give", "I", false)
  | 11 => ("IfYouWill$Reader", "draft", "LIfYouWill$Term;", false)
  | 12 => ("IfYouWill$Reader", "faultNumber", "I", false)
  | _ => ("IfYouWill$Reader", "faultAt", "I", false)
def tyX3 : Nat → FieldType := fun k => match k with
  | 0 => .object "IfYouWill$Text"
  | 1 => .array .int
  | 2 => .array .int
  | 3 => .array .int
  | 4 => .int
  | 5 => .int
  | 6 => .int
  | 7 => .int
  | 8 => .int
  | 9 => .int
  | 10 => .int
  | 11 => .object "IfYouWill$Term"
  | 12 => .int
  | _ => .int
abbrev wsX30 : List Cond := u_ws RX3 TX3 14
theorem nmX3 : ∀ a, a < 14 → ∀ b, b < 14 → a ≠ b → (TX3 a).2.1 ≠ (TX3 b).2.1 := by decide +kernel
theorem tyX3_ok : ∀ k, k < 14 → parseFieldDescriptor (TX3 k).2.2.1 = some (tyX3 k) := by decide +kernel
def RX4 : String := "IfYouWill$Scene"
def TX4 : u_T := fun k => match k with
  | 0 => ("IfYouWill$Scene", "own", "I", false)
  | 1 => ("IfYouWill$Scene", "others", "I", false)
  | 2 => ("IfYouWill$Scene", "day", "I", false)
  | _ => ("IfYouWill$Scene", "size", "I", false)
def tyX4 : Nat → FieldType := fun k => match k with
  | 0 => .int
  | 1 => .int
  | 2 => .int
  | _ => .int
abbrev wsX40 : List Cond := u_ws RX4 TX4 4
theorem nmX4 : ∀ a, a < 4 → ∀ b, b < 4 → a ≠ b → (TX4 a).2.1 ≠ (TX4 b).2.1 := by decide +kernel
theorem tyX4_ok : ∀ k, k < 4 → parseFieldDescriptor (TX4 k).2.2.1 = some (tyX4 k) := by decide +kernel
def RX5 : String := "IfYouWill$Term"
def TX5 : u_T := fun k => match k with
  | 0 => ("IfYouWill$Term", "muchKinds", "[I", true)
  | 1 => ("IfYouWill$Term", "muchOf", "[I", true)
  | 2 => ("IfYouWill$Term", "ends", "[I", true)
  | 3 => ("IfYouWill$Term", "rules", "I", false)
  | 4 => ("IfYouWill$Term", "kinds", "[I", true)
  | 5 => ("IfYouWill$Term", "froms", "[I", true)
  | 6 => ("IfYouWill$Term", "tos", "[I", true)
  | 7 => ("IfYouWill$Term", "numbers", "[I", true)
  | 8 => ("IfYouWill$Term", "steps", "I", false)
  | 9 => ("IfYouWill$Term", "softPlaces", "[I", true)
  | _ => ("IfYouWill$Term", "softs", "I", false)
def tyX5 : Nat → FieldType := fun k => match k with
  | 0 => .array .int
  | 1 => .array .int
  | 2 => .array .int
  | 3 => .int
  | 4 => .array .int
  | 5 => .array .int
  | 6 => .array .int
  | 7 => .array .int
  | 8 => .int
  | 9 => .array .int
  | _ => .int
abbrev wsX50 : List Cond := u_ws RX5 TX5 11
theorem nmX5 : ∀ a, a < 11 → ∀ b, b < 11 → a ≠ b → (TX5 a).2.1 ≠ (TX5 b).2.1 := by decide +kernel
theorem tyX5_ok : ∀ k, k < 11 → parseFieldDescriptor (TX5 k).2.2.1 = some (tyX5 k) := by decide +kernel
def RX6 : String := "IfYouWill$Text"
def TX6 : u_T := fun k => match k with
  | 0 => ("IfYouWill$Text", "bytes", "[I", true)
  | _ => ("IfYouWill$Text", "length", "I", false)
def tyX6 : Nat → FieldType := fun k => match k with
  | 0 => .array .int
  | _ => .int
abbrev wsX60 : List Cond := u_ws RX6 TX6 2
theorem nmX6 : ∀ a, a < 2 → ∀ b, b < 2 → a ≠ b → (TX6 a).2.1 ≠ (TX6 b).2.1 := by decide +kernel
theorem tyX6_ok : ∀ k, k < 2 → parseFieldDescriptor (TX6 k).2.2.1 = some (tyX6 k) := by decide +kernel
def RX7 : String := "IfYouWill$Village"
def TX7 : u_T := fun k => match k with
  | 0 => ("IfYouWill$Village", "people", "[LIfYouWill$Person;", true)
  | _ => ("IfYouWill$Village", "size", "I", false)
def tyX7 : Nat → FieldType := fun k => match k with
  | 0 => .array (.object "IfYouWill$Person")
  | _ => .int
abbrev wsX70 : List Cond := u_ws RX7 TX7 2
theorem nmX7 : ∀ a, a < 2 → ∀ b, b < 2 → a ≠ b → (TX7 a).2.1 ≠ (TX7 b).2.1 := by decide +kernel
theorem tyX7_ok : ∀ k, k < 2 → parseFieldDescriptor (TX7 k).2.2.1 = some (tyX7 k) := by decide +kernel
def RX8 : String := "IfYouWill"
def TX8 : u_T := fun k => match k with
  | 0 => ("IfYouWill", "text", "LIfYouWill$Text;", true)
  | 1 => ("IfYouWill", "reader", "LIfYouWill$Reader;", true)
  | 2 => ("IfYouWill", "village", "LIfYouWill$Village;", true)
  | 3 => ("IfYouWill", "climbing", "LIfYouWill$Climbing;", true)
  | _ => ("IfYouWill", "bargain", "LIfYouWill$Bargain;", true)
def tyX8 : Nat → FieldType := fun k => match k with
  | 0 => .object "IfYouWill$Text"
  | 1 => .object "IfYouWill$Reader"
  | 2 => .object "IfYouWill$Village"
  | 3 => .object "IfYouWill$Climbing"
  | _ => .object "IfYouWill$Bargain"
abbrev wsX80 : List Cond := u_ws RX8 TX8 5
theorem nmX8 : ∀ a, a < 5 → ∀ b, b < 5 → a ≠ b → (TX8 a).2.1 ≠ (TX8 b).2.1 := by decide +kernel
theorem tyX8_ok : ∀ k, k < 5 → parseFieldDescriptor (TX8 k).2.2.1 = some (tyX8 k) := by decide +kernel
def RX9 : String := "IfYouWillModel"
def TX9 : u_T := fun k => match k with
  | 0 => ("IfYouWillModel", "n", "I", false)
  | 1 => ("IfYouWillModel", "rules", "[I", true)
  | 2 => ("IfYouWillModel", "much", "[I", true)
  | 3 => ("IfYouWillModel", "muchOf", "[I", true)
  | 4 => ("IfYouWillModel", "signFrom", "[I", true)
  | 5 => ("IfYouWillModel", "signTo", "[I", true)
  | 6 => ("IfYouWillModel", "sign", "[I", true)
  | 7 => ("IfYouWillModel", "who", "[I", true)
  | 8 => ("IfYouWillModel", "upTo", "[I", true)
  | 9 => ("IfYouWillModel", "many", "[I", true)
  | 10 => ("IfYouWillModel", "gives", "[I", true)
  | 11 => ("IfYouWillModel", "isTold", "[Z", true)
  | 12 => ("IfYouWillModel", "part", "[I", true)
  | 13 => ("IfYouWillModel", "worth", "[I", true)
  | 14 => ("IfYouWillModel", "text", "[I", true)
  | 15 => ("IfYouWillModel", "textSize", "I", false)
  | 16 => ("IfYouWillModel", "at", "I", false)
  | 17 => ("IfYouWillModel", "from", "I", false)
  | 18 => ("IfYouWillModel", "letters", "I", false)
  | 19 => ("IfYouWillModel", "faultOf", "I", false)
  | 20 => ("IfYouWillModel", "place", "I", false)
  | 21 => ("IfYouWillModel", "newRules", "I", false)
  | 22 => ("IfYouWillModel", "newSigns", "I", false)
  | 23 => ("IfYouWillModel", "newMuch", "[I", true)
  | 24 => ("IfYouWillModel", "newOf", "[I", true)
  | 25 => ("IfYouWillModel", "newFrom", "[I", true)
  | 26 => ("IfYouWillModel", "newTo", "[I", true)
  | 27 => ("IfYouWillModel", "newSign", "[I", true)
  | 28 => ("IfYouWillModel", "newWho", "[I", true)
  | 29 => ("IfYouWillModel", "newUpTo", "[I", true)
  | 30 => ("IfYouWillModel", "newMany", "[I", true)
  | 31 => ("IfYouWillModel", "newGives", "[I", true)
  | 32 => ("IfYouWillModel", "newTold", "[Z", true)
  | 33 => ("IfYouWillModel", "stack", "[I", true)
  | 34 => ("IfYouWillModel", "stacked", "I", false)
  | 35 => ("IfYouWillModel", "wordOf", "I", false)
  | 36 => ("IfYouWillModel", "word", "I", false)
  | 37 => ("IfYouWillModel", "softOf", "I", false)
  | 38 => ("IfYouWillModel", "lessMany", "[I", true)
  | 39 => ("IfYouWillModel", "lessGives", "[I", true)
  | 40 => ("IfYouWillModel", "truth", "[Z", true)
  | 41 => ("IfYouWillModel", "slipRow", "I", false)
  | 42 => ("IfYouWillModel", "slipOf", "I", false)
  | 43 => ("IfYouWillModel", "met", "[I", true)
  | 44 => ("IfYouWillModel", "restRow", "I", false)
  | 45 => ("IfYouWillModel", "tail", "I", false)
  | 46 => ("IfYouWillModel", "ring", "I", false)
  | 47 => ("IfYouWillModel", "slotSign", "[I", true)
  | 48 => ("IfYouWillModel", "slotGives", "[Z", true)
  | _ => ("IfYouWillModel", "slots", "I", false)
def tyX9 : Nat → FieldType := fun k => match k with
  | 0 => .int
  | 1 => .array .int
  | 2 => .array .int
  | 3 => .array .int
  | 4 => .array .int
  | 5 => .array .int
  | 6 => .array .int
  | 7 => .array .int
  | 8 => .array .int
  | 9 => .array .int
  | 10 => .array .int
  | 11 => .array .boolean
  | 12 => .array .int
  | 13 => .array .int
  | 14 => .array .int
  | 15 => .int
  | 16 => .int
  | 17 => .int
  | 18 => .int
  | 19 => .int
  | 20 => .int
  | 21 => .int
  | 22 => .int
  | 23 => .array .int
  | 24 => .array .int
  | 25 => .array .int
  | 26 => .array .int
  | 27 => .array .int
  | 28 => .array .int
  | 29 => .array .int
  | 30 => .array .int
  | 31 => .array .int
  | 32 => .array .boolean
  | 33 => .array .int
  | 34 => .int
  | 35 => .int
  | 36 => .int
  | 37 => .int
  | 38 => .array .int
  | 39 => .array .int
  | 40 => .array .boolean
  | 41 => .int
  | 42 => .int
  | 43 => .array .int
  | 44 => .int
  | 45 => .int
  | 46 => .int
  | 47 => .array .int
  | 48 => .array .boolean
  | _ => .int
abbrev wsX90 : List Cond := u_ws RX9 TX9 50
theorem nmX9 : ∀ a, a < 50 → ∀ b, b < 50 → a ≠ b → (TX9 a).2.1 ≠ (TX9 b).2.1 := by decide +kernel
theorem tyX9_ok : ∀ k, k < 50 → parseFieldDescriptor (TX9 k).2.2.1 = some (tyX9 k) := by decide +kernel
abbrev vwCl : List vw_C := [(RX0, TX0, 1), (RX1, TX1, 4), (RX2, TX2, 7), (RX3, TX3, 14), (RX4, TX4, 4), (RX5, TX5, 11), (RX6, TX6, 2), (RX7, TX7, 2), (RX8, TX8, 5), (RX9, TX9, 50)]
/-- the classes by number: ten with objects, then those of static methods, then the law -/
def cN (k : Nat) : String := [RX0, RX1, RX2, RX3, RX4, RX5, RX6, RX7, RX8, RX9, "java/util/Arrays", "java/lang/Math", "IfYouWillLaw"].getD k ""
/-- the methods by number: name, bytes, locals, result, own class -/
abbrev YE : Type := MethodName × ByteArray × Nat × Option FieldType × Nat
def yT0 : List YE := [(⟨RX0, "isAtRest", "(III)Z"⟩, prog_2_method_2_code, 9, some .boolean, 0),
  (⟨RX0, "reaches", "(II)Z"⟩, prog_2_method_3_code, 5, some .boolean, 0),
  (⟨RX0, "outcome", "(LIfYouWill$Person;ZZI)I"⟩, prog_2_method_4_code, 4, some .int, 0),
  (⟨RX0, "pledged", "(I)I"⟩, prog_2_method_5_code, 4, some .int, 0),
  (⟨RX1, "start", "(IIII)V"⟩, prog_3_method_2_code, 9, none, 1),
  (⟨RX1, "next", "(IIII)I"⟩, prog_3_method_3_code, 9, some .int, 1),
  (⟨RX2, "begin", "()V"⟩, prog_4_method_2_code, 1, none, 2),
  (⟨RX2, "exchange", "(LIfYouWill$Term;)LIfYouWill$Term;"⟩, prog_4_method_3_code, 3, some (.object "IfYouWill$Term"), 2),
  (⟨RX2, "allowed", "(III)I"⟩, prog_4_method_4_code, 4, some .int, 2),
  (⟨RX2, "allowedOften", "(III)I"⟩, prog_4_method_5_code, 9, some .int, 2),
  (⟨RX2, "softness", "(II)I"⟩, prog_4_method_6_code, 4, some .int, 2),
  (⟨RX3, "read", "()Z"⟩, prog_5_method_2_code, 3, some .boolean, 3),
  (⟨RX3, "split", "()V"⟩, prog_5_method_3_code, 5, none, 3),
  (⟨RX3, "addToken", "(III)V"⟩, prog_5_method_4_code, 4, none, 3),
  (⟨RX3, "kindOf", "(I)I"⟩, prog_5_method_5_code, 1, some .int, 3),
  (⟨RX3, "readRule", "()Z"⟩, prog_5_method_6_code, 1, some .boolean, 3)]
def yT1 : List YE := [(⟨RX3, "readMuch", "()Z"⟩, prog_5_method_7_code, 2, some .boolean, 3),
  (⟨RX3, "readSome", "(I)Z"⟩, prog_5_method_8_code, 5, some .boolean, 3),
  (⟨RX3, "readOne", "(I)Z"⟩, prog_5_method_9_code, 2, some .boolean, 3),
  (⟨RX3, "readDeeper", "(I)Z"⟩, prog_5_method_10_code, 2, some .boolean, 3),
  (⟨RX3, "forgetParts", "()V"⟩, prog_5_method_11_code, 1, none, 3),
  (⟨RX3, "adds", "(I)Z"⟩, prog_5_method_12_code, 2, some .boolean, 3),
  (⟨RX3, "readMany", "(II)Z"⟩, prog_5_method_13_code, 4, some .boolean, 3),
  (⟨RX3, "readPerson", "()Z"⟩, prog_5_method_14_code, 2, some .boolean, 3),
  (⟨RX3, "readRange", "()Z"⟩, prog_5_method_15_code, 1, some .boolean, 3),
  (⟨RX3, "readGive", "(Ljava/lang/String;)Z"⟩, prog_5_method_16_code, 3, some .boolean, 3),
  (⟨RX3, "readNumber", "(II)Z"⟩, prog_5_method_17_code, 4, some .boolean, 3),
  (⟨RX3, "takes", "(Ljava/lang/String;)Z"⟩, prog_5_method_18_code, 3, some .boolean, 3),
  (⟨RX3, "isWord", "(Ljava/lang/String;)Z"⟩, prog_5_method_19_code, 3, some .boolean, 3),
  (⟨RX3, "isSign", "(C)Z"⟩, prog_5_method_20_code, 2, some .boolean, 3),
  (⟨RX3, "fails", "(I)Z"⟩, prog_5_method_21_code, 2, some .boolean, 3),
  (⟨RX4, "look", "(IIII)V"⟩, prog_6_method_2_code, 5, none, 4)]
def yT2 : List YE := [(⟨RX4, "least", "()I"⟩, prog_6_method_3_code, 4, some .int, 4),
  (⟨RX4, "most", "()I"⟩, prog_6_method_4_code, 4, some .int, 4),
  (⟨RX4, "isSo", "(IIIII)Z"⟩, prog_6_method_5_code, 11, some .boolean, 4),
  (⟨RX5, "becomeZero", "()V"⟩, prog_7_method_2_code, 1, none, 5),
  (⟨RX5, "wipe", "()V"⟩, prog_7_method_3_code, 1, none, 5),
  (⟨RX5, "addRule", "(II)V"⟩, prog_7_method_4_code, 3, none, 5),
  (⟨RX5, "addStep", "(IIIII)V"⟩, prog_7_method_5_code, 6, none, 5),
  (⟨RX5, "addNumber", "(II)V"⟩, prog_7_method_6_code, 3, none, 5),
  (⟨RX5, "allowed", "(LIfYouWill$Scene;)I"⟩, prog_7_method_7_code, 4, some .int, 5),
  (⟨RX5, "much", "(IILIfYouWill$Scene;)I"⟩, prog_7_method_8_code, 3, some .int, 5),
  (⟨RX5, "holds", "(IILIfYouWill$Scene;)Z"⟩, prog_7_method_9_code, 6, some .boolean, 5),
  (⟨RX5, "softens", "(LIfYouWill$Term;IIILIfYouWill$Scene;)Z"⟩, prog_7_method_10_code, 8, some .boolean, 5),
  (⟨RX5, "leastAt", "(I)I"⟩, prog_7_method_11_code, 2, some .int, 5),
  (⟨RX6, "hasRoom", "(I)Z"⟩, prog_8_method_2_code, 2, some .boolean, 6),
  (⟨RX6, "append", "(IJ)V"⟩, prog_8_method_3_code, 5, none, 6),
  (⟨RX7, "begin", "(I)V"⟩, prog_9_method_2_code, 3, none, 7)]
def yT3 : List YE := [(⟨RX7, "has", "(I)Z"⟩, prog_9_method_3_code, 2, some .boolean, 7),
  (⟨RX7, "hasAll", "(I)Z"⟩, prog_9_method_4_code, 2, some .boolean, 7),
  (⟨RX7, "hasRow", "(I)Z"⟩, prog_9_method_5_code, 2, some .boolean, 7),
  (⟨RX7, "rows", "()I"⟩, prog_9_method_6_code, 1, some .int, 7),
  (⟨RX7, "rules", "()I"⟩, prog_9_method_7_code, 3, some .int, 7),
  (⟨RX7, "growing", "(I)I"⟩, prog_9_method_8_code, 4, some .int, 7),
  (⟨RX7, "slipRow", "(II)I"⟩, prog_9_method_9_code, 4, some .int, 7),
  (⟨RX7, "slipBy", "(III)I"⟩, prog_9_method_10_code, 6, some .int, 7),
  (⟨RX7, "agrees", "(II)Z"⟩, prog_9_method_11_code, 4, some .boolean, 7),
  (⟨RX7, "possibles", "(I)I"⟩, prog_9_method_12_code, 4, some .int, 7),
  (⟨RX7, "possibleAt", "(II)I"⟩, prog_9_method_13_code, 5, some .int, 7),
  (⟨RX7, "hangsOn", "(III)Z"⟩, prog_9_method_14_code, 6, some .boolean, 7),
  (⟨RX7, "softness", "(I)I"⟩, prog_9_method_15_code, 5, some .int, 7),
  (⟨RX7, "nextDay", "(II)I"⟩, prog_9_method_16_code, 5, some .int, 7),
  (⟨RX8, "persons", "(I)I"⟩, prog_1_method_2_code, 2, some .int, 8),
  (⟨RX8, "feed", "(IJ)I"⟩, prog_1_method_3_code, 4, some .int, 8)]
def yT4 : List YE := [(⟨RX8, "term", "(I)I"⟩, prog_1_method_4_code, 3, some .int, 8),
  (⟨RX8, "fault", "()I"⟩, prog_1_method_5_code, 1, some .int, 8),
  (⟨RX8, "lets", "(III)I"⟩, prog_1_method_6_code, 4, some .int, 8),
  (⟨RX8, "count", "(I)I"⟩, prog_1_method_7_code, 2, some .int, 8),
  (⟨RX8, "grows", "(III)I"⟩, prog_1_method_8_code, 5, some .int, 8),
  (⟨RX8, "judge", "(II)I"⟩, prog_1_method_9_code, 4, some .int, 8),
  (⟨RX8, "settled", "(I)I"⟩, prog_1_method_10_code, 2, some .int, 8),
  (⟨RX8, "end", "(I)I"⟩, prog_1_method_11_code, 4, some .int, 8),
  (⟨RX8, "climb", "(III)I"⟩, prog_1_method_12_code, 4, some .int, 8),
  (⟨RX8, "hangs", "(II)I"⟩, prog_1_method_13_code, 5, some .int, 8),
  (⟨RX8, "leaving", "(II)I"⟩, prog_1_method_14_code, 3, some .int, 8),
  (⟨RX8, "soft", "(II)I"⟩, prog_1_method_15_code, 3, some .int, 8),
  (⟨RX8, "byDay", "(I)I"⟩, prog_1_method_16_code, 4, some .int, 8),
  (⟨RX8, "dares", "(I)I"⟩, prog_1_method_17_code, 4, some .int, 8),
  (⟨RX8, "offer", "(III)I"⟩, prog_1_method_18_code, 6, some .int, 8),
  (⟨RX8, "rests", "(III)I"⟩, prog_1_method_19_code, 4, some .int, 8)]
def yT5 : List YE := [(⟨RX8, "leastTop", "(I)I"⟩, prog_1_method_20_code, 3, some .int, 8),
  (⟨RX8, "sly", "(III)I"⟩, prog_1_method_21_code, 8, some .int, 8),
  (⟨RX8, "possible", "(II)I"⟩, prog_1_method_22_code, 3, some .int, 8),
  (⟨RX8, "sure", "(II)I"⟩, prog_1_method_23_code, 5, some .int, 8),
  (⟨RX8, "telling", "(II)I"⟩, prog_1_method_24_code, 3, some .int, 8),
  (⟨RX8, "gain", "(III)I"⟩, prog_1_method_25_code, 5, some .int, 8),
  (⟨RX8, "isFurther", "(III)Z"⟩, prog_1_method_26_code, 3, some .boolean, 8),
  (⟨RX8, "within", "(III)Z"⟩, prog_1_method_27_code, 3, some .boolean, 8),
  (⟨RX8, "isIn", "(II)Z"⟩, prog_1_method_28_code, 2, some .boolean, 8),
  (⟨RX8, "deed", "(II)I"⟩, prog_1_method_29_code, 2, some .int, 8),
  (⟨RX8, "withDeed", "(III)I"⟩, prog_1_method_30_code, 3, some .int, 8),
  (⟨RX8, "sum", "(I)I"⟩, prog_1_method_31_code, 3, some .int, 8),
  (⟨RX9, "in", "(JJJ)Z"⟩, prog_11_method_3_code, 6, some .boolean, 9),
  (⟨RX9, "one", "(Z)I"⟩, prog_11_method_4_code, 1, some .int, 9),
  (⟨RX9, "begin", "(I)V"⟩, prog_11_method_5_code, 3, none, 9),
  (⟨RX9, "persons", "(I)I"⟩, prog_11_method_6_code, 2, some .int, 9)]
def yT6 : List YE := [(⟨RX9, "noPerson", "(I)Z"⟩, prog_11_method_7_code, 2, some .boolean, 9),
  (⟨RX9, "allRows", "()I"⟩, prog_11_method_8_code, 1, some .int, 9),
  (⟨RX9, "noRow", "(I)Z"⟩, prog_11_method_9_code, 2, some .boolean, 9),
  (⟨RX9, "isDay", "(I)Z"⟩, prog_11_method_10_code, 1, some .boolean, 9),
  (⟨RX9, "feed", "(IJ)I"⟩, prog_11_method_11_code, 5, some .int, 9),
  (⟨RX9, "here", "()I"⟩, prog_11_method_12_code, 1, some .int, 9),
  (⟨RX9, "want", "(ZII)Z"⟩, prog_11_method_13_code, 4, some .boolean, 9),
  (⟨RX9, "takeWord", "()V"⟩, prog_11_method_14_code, 2, none, 9),
  (⟨RX9, "isWord", "(IIIIII)Z"⟩, prog_11_method_15_code, 9, some .boolean, 9),
  (⟨RX9, "takes", "(IIIIII)Z"⟩, prog_11_method_16_code, 8, some .boolean, 9),
  (⟨RX9, "takeNumber", "(II)I"⟩, prog_11_method_17_code, 6, some .int, 9),
  (⟨RX9, "addSign", "(I)V"⟩, prog_11_method_18_code, 2, none, 9),
  (⟨RX9, "takeSpan", "()V"⟩, prog_11_method_19_code, 3, none, 9),
  (⟨RX9, "takeOne", "(I)V"⟩, prog_11_method_20_code, 3, none, 9),
  (⟨RX9, "open", "()I"⟩, prog_11_method_21_code, 3, some .int, 9),
  (⟨RX9, "push", "(I)V"⟩, prog_11_method_22_code, 2, none, 9)]
def yT7 : List YE := [(⟨RX9, "pop", "()V"⟩, prog_11_method_23_code, 1, none, 9),
  (⟨RX9, "endOne", "()V"⟩, prog_11_method_24_code, 1, none, 9),
  (⟨RX9, "hasOpen", "()Z"⟩, prog_11_method_25_code, 3, some .boolean, 9),
  (⟨RX9, "takeHead", "()V"⟩, prog_11_method_26_code, 4, none, 9),
  (⟨RX9, "closeAll", "()V"⟩, prog_11_method_27_code, 1, none, 9),
  (⟨RX9, "takeSome", "()V"⟩, prog_11_method_28_code, 4, none, 9),
  (⟨RX9, "takeRule", "()V"⟩, prog_11_method_29_code, 4, none, 9),
  (⟨RX9, "term", "(I)I"⟩, prog_11_method_30_code, 5, some .int, 9),
  (⟨RX9, "fault", "()I"⟩, prog_11_method_31_code, 1, some .int, 9),
  (⟨RX9, "deed", "(II)I"⟩, prog_11_method_32_code, 2, some .int, 9),
  (⟨RX9, "oneHolds", "(IIII)Z"⟩, prog_11_method_33_code, 13, some .boolean, 9),
  (⟨RX9, "holds", "(IIII)Z"⟩, prog_11_method_34_code, 8, some .boolean, 9),
  (⟨RX9, "muchBy", "(III)I"⟩, prog_11_method_35_code, 10, some .int, 9),
  (⟨RX9, "letBy", "(III)I"⟩, prog_11_method_36_code, 5, some .int, 9),
  (⟨RX9, "lets", "(III)I"⟩, prog_11_method_37_code, 4, some .int, 9),
  (⟨RX9, "rulesAll", "()I"⟩, prog_11_method_38_code, 3, some .int, 9)]
def yT8 : List YE := [(⟨RX9, "growing", "()I"⟩, prog_11_method_39_code, 3, some .int, 9),
  (⟨RX9, "count", "(I)I"⟩, prog_11_method_40_code, 2, some .int, 9),
  (⟨RX9, "slips", "(II)Z"⟩, prog_11_method_41_code, 6, some .boolean, 9),
  (⟨RX9, "grows", "(III)I"⟩, prog_11_method_42_code, 5, some .int, 9),
  (⟨RX9, "notSo", "(III)I"⟩, prog_11_method_43_code, 5, some .int, 9),
  (⟨RX9, "judge", "(II)I"⟩, prog_11_method_44_code, 3, some .int, 9),
  (⟨RX9, "mayBe", "(II)I"⟩, prog_11_method_45_code, 5, some .int, 9),
  (⟨RX9, "settled", "(I)I"⟩, prog_11_method_46_code, 2, some .int, 9),
  (⟨RX9, "sumOf", "(I)I"⟩, prog_11_method_47_code, 4, some .int, 9),
  (⟨RX9, "end", "(I)I"⟩, prog_11_method_48_code, 5, some .int, 9),
  (⟨RX9, "nextRow", "(II)I"⟩, prog_11_method_49_code, 5, some .int, 9),
  (⟨RX9, "goUp", "(II)V"⟩, prog_11_method_50_code, 5, none, 9),
  (⟨RX9, "climb", "(III)I"⟩, prog_11_method_51_code, 4, some .int, 9),
  (⟨RX9, "hangs", "(II)I"⟩, prog_11_method_52_code, 8, some .int, 9),
  (⟨RX9, "leaving", "(II)I"⟩, prog_11_method_53_code, 3, some .int, 9),
  (⟨RX9, "findSlots", "(I)V"⟩, prog_11_method_54_code, 5, none, 9)]
def yT9 : List YE := [(⟨RX9, "soften", "(III)Z"⟩, prog_11_method_55_code, 6, some .boolean, 9),
  (⟨RX9, "isLet", "(II)Z"⟩, prog_11_method_56_code, 3, some .boolean, 9),
  (⟨RX9, "doesSoft", "(III)Z"⟩, prog_11_method_57_code, 11, some .boolean, 9),
  (⟨RX9, "softBy", "(II)I"⟩, prog_11_method_58_code, 5, some .int, 9),
  (⟨RX9, "soft", "(II)I"⟩, prog_11_method_59_code, 6, some .int, 9),
  (⟨RX9, "rowBy", "(I)I"⟩, prog_11_method_60_code, 7, some .int, 9),
  (⟨RX9, "byDay", "(I)I"⟩, prog_11_method_61_code, 2, some .int, 9),
  (⟨RX9, "dares", "(I)I"⟩, prog_11_method_62_code, 3, some .int, 9),
  (⟨RX9, "offer", "(III)I"⟩, prog_11_method_63_code, 5, some .int, 9),
  (⟨RX9, "comes", "(II)Z"⟩, prog_11_method_64_code, 5, some .boolean, 9),
  (⟨RX9, "hasBy", "(IIII)I"⟩, prog_11_method_65_code, 6, some .int, 9),
  (⟨RX9, "isResting", "(III)Z"⟩, prog_11_method_66_code, 6, some .boolean, 9),
  (⟨RX9, "isGoal", "(I)Z"⟩, prog_11_method_67_code, 1, some .boolean, 9),
  (⟨RX9, "rests", "(III)I"⟩, prog_11_method_68_code, 4, some .int, 9),
  (⟨RX9, "leastTop", "(I)I"⟩, prog_11_method_69_code, 6, some .int, 9),
  (⟨RX9, "hasByWord", "(III)I"⟩, prog_11_method_70_code, 4, some .int, 9)]
def yT10 : List YE := [(⟨RX9, "sly", "(III)I"⟩, prog_11_method_71_code, 8, some .int, 9),
  (⟨RX9, "noSet", "(I)Z"⟩, prog_11_method_72_code, 2, some .boolean, 9),
  (⟨RX9, "possible", "(II)I"⟩, prog_11_method_73_code, 3, some .int, 9),
  (⟨RX9, "sure", "(II)I"⟩, prog_11_method_74_code, 5, some .int, 9),
  (⟨RX9, "telling", "(II)I"⟩, prog_11_method_75_code, 3, some .int, 9),
  (⟨"java/lang/Math", "max", "(II)I"⟩, prog_12_method_65_code, 2, some .int, 11),
  (⟨"java/util/Arrays", "fill", "([II)V"⟩, prog_16_method_103_code, 4, none, 10),
  (⟨"IfYouWillLaw", "law", "([I)Z"⟩, code, 4, some .boolean, 12)]
def yT : List (List YE) := [yT0, yT1, yT2, yT3, yT4, yT5, yT6, yT7, yT8, yT9, yT10]
def yE (y : Nat) : YE := (yT.getD (y / 16) []).getD (y % 16) (⟨"", "", ""⟩, code, 0, none, 0)
def yN (y : Nat) : MethodName := (yE y).1
def yC (y : Nat) : ByteArray := (yE y).2.1
def yL (y : Nat) : Nat := (yE y).2.2.1
def yR (y : Nat) : Option FieldType := (yE y).2.2.2.1
def yO (y : Nat) : Nat := (yE y).2.2.2.2
end
section
/-- an instruction, resolved: (kind, number, a, b, the next place) -/
abbrev In : Type := Nat × Int32 × Nat × Nat × Nat
def zz : In := (63, 0, 0, 0, 0)
/-- X0_isAtRest -/
def pg0 : List (List In) := [[(0, 0, 0, 1, 1), (0, 0, 1, 0, 2), (3, 0, 3, 10, 5), zz, zz, (10, 0, 4, 0, 7), zz, (2, 0, 0, 0, 8), (10, 0, 5, 0, 10), zz, (0, 0, 5, 0, 12), zz, (0, 0, 0, 1, 13), (1, 0, 0, 0, 16), zz, zz],
  [(1, 0, 7, 1, 19), zz, zz, (12, 0, 125, 0, 22), zz, zz, (0, 0, 0, 1, 23), (1, 0, 0, 0, 26), zz, zz, (1, 0, 7, 0, 29), zz, zz, (0, 0, 5, 0, 31), zz, (28, 0, 0, 0, 32)],
  [(10, 0, 6, 1, 34), zz, (0, 0, 1, 0, 35), (0, 0, 5, 0, 37), zz, (3, 0, 88, 2, 40), zz, zz, (10, 0, 7, 0, 42), zz, (0, 0, 7, 0, 44), zz, (6, 0, 58, 0, 47), zz, zz, (0, 0, 4, 0, 49)],
  [zz, (0, 0, 6, 1, 51), zz, (1, 0, 2, 3, 54), zz, zz, (17, 0, 0, 0, 55), (4, 0, 66, 0, 58), zz, zz, (0, 0, 4, 0, 60), zz, (0, 0, 6, 1, 62), zz, (1, 0, 2, 3, 65), zz],
  [zz, (9, 0, 0, 0, 66), (10, 0, 8, 0, 68), zz, (0, 0, 6, 1, 70), zz, (0, 0, 7, 0, 72), zz, (11, 0, 79, 0, 75), zz, zz, (2, 1, 0, 0, 76), (4, 0, 80, 0, 79), zz, zz, (2, 0, 0, 0, 80)],
  [(0, 0, 8, 0, 82), zz, (0, 0, 2, 0, 83), (22, 0, 90, 0, 86), zz, zz, (2, 1, 0, 0, 87), (4, 0, 91, 0, 90), zz, zz, (2, 0, 0, 0, 91), (0, 0, 3, 0, 92), (3, 0, 2, 4, 95), zz, zz, (0, 0, 6, 1, 97)],
  [zz, (0, 0, 7, 0, 99), zz, (0, 0, 4, 0, 101), zz, (0, 0, 2, 0, 102), (22, 0, 109, 0, 105), zz, zz, (2, 1, 0, 0, 106), (4, 0, 110, 0, 109), zz, zz, (2, 0, 0, 0, 110), (0, 0, 3, 0, 111), (3, 0, 2, 4, 114)],
  [zz, zz, (29, 0, 119, 0, 117), zz, zz, (2, 0, 0, 0, 118), (54, 0, 0, 0, 119), (13, 1, 5, 0, 122), zz, zz, (4, 0, 10, 0, 125), zz, zz, (2, 1, 0, 0, 126), (54, 0, 0, 0, 127)]]
/-- X0_reaches -/
def pg1 : List (List In) := [[(2, 0, 0, 0, 1), (10, 0, 3, 0, 2), (2, 0, 0, 0, 3), (10, 0, 4, 0, 5), zz, (0, 0, 4, 0, 7), zz, (2, 1, 0, 0, 8), (0, 0, 0, 1, 9), (1, 0, 0, 0, 12), zz, zz, (1, 0, 7, 1, 15), zz, zz, (23, 0, 0, 0, 16)],
  [(12, 0, 50, 0, 19), zz, zz, (0, 0, 0, 1, 20), (0, 0, 4, 0, 22), zz, (0, 0, 1, 0, 23), (0, 0, 2, 0, 24), (3, 0, 0, 12, 27), zz, zz, (6, 0, 44, 0, 30), zz, zz, (0, 0, 0, 1, 31), (0, 0, 4, 0, 33)],
  [zz, (3, 0, 3, 10, 36), zz, zz, (0, 0, 1, 0, 37), (12, 0, 42, 0, 40), zz, zz, (2, 0, 0, 0, 41), (54, 0, 0, 0, 42), (2, 1, 0, 0, 43), (10, 0, 3, 0, 44), (13, 1, 4, 0, 47), zz, zz, (4, 0, 5, 0, 50)],
  [zz, zz, (0, 0, 3, 0, 51), (54, 0, 0, 0, 52)]]
/-- X0_outcome -/
def pg2 : List (List In) := [[(0, 0, 2, 0, 1), (11, 0, 14, 0, 4), zz, zz, (0, 0, 1, 0, 5), (6, 0, 12, 0, 8), zz, zz, (0, 0, 3, 0, 9), (4, 0, 13, 0, 12), zz, zz, (2, 0, 0, 0, 13), (5, 0, 0, 0, 14), (0, 0, 1, 0, 15), (6, 0, 30, 0, 18)],
  [zz, zz, (0, 0, 0, 1, 19), (1, 0, 2, 4, 22), zz, zz, (0, 0, 0, 1, 23), (1, 0, 2, 3, 26), zz, zz, (17, 0, 0, 0, 27), (4, 0, 34, 0, 30), zz, zz, (0, 0, 0, 1, 31), (1, 0, 2, 4, 34)],
  [zz, zz, (5, 0, 0, 0, 35)]]
/-- X0_pledged -/
def pg3 : List (List In) := [[(2, 0, 0, 0, 1), (10, 0, 2, 0, 2), (2, 0, 0, 0, 3), (10, 0, 3, 0, 4), (0, 0, 3, 0, 5), (0, 0, 0, 1, 6), (1, 0, 0, 0, 9), zz, zz, (1, 0, 7, 1, 12), zz, zz, (12, 0, 44, 0, 15), zz, zz, (0, 0, 1, 0, 16)],
  [(0, 0, 3, 0, 17), (3, 0, 88, 2, 20), zz, zz, (6, 0, 38, 0, 23), zz, zz, (0, 0, 2, 0, 24), (0, 0, 0, 1, 25), (1, 0, 0, 0, 28), zz, zz, (1, 0, 7, 0, 31), zz, zz, (0, 0, 3, 0, 32)],
  [(28, 0, 0, 0, 33), (1, 0, 2, 3, 36), zz, zz, (9, 0, 0, 0, 37), (10, 0, 2, 0, 38), (13, 1, 3, 0, 41), zz, zz, (4, 0, 4, 0, 44), zz, zz, (0, 0, 2, 0, 45), (5, 0, 0, 0, 46)]]
/-- X1_start -/
def pg4 : List (List In) := [[(0, 0, 1, 0, 1), (10, 0, 5, 0, 3), zz, (0, 0, 0, 1, 4), (0, 0, 1, 0, 5), (0, 0, 2, 0, 6), (0, 0, 3, 0, 7), (0, 0, 4, 0, 9), zz, (3, 0, 5, 21, 12), zz, zz, (10, 0, 6, 0, 14), zz, (0, 0, 0, 1, 15), (2, 1, 0, 0, 16)],
  [(8, 0, 1, 3, 19), zz, zz, (2, 1, 0, 0, 20), (10, 0, 7, 0, 22), zz, (2, 0, 0, 0, 23), (10, 0, 8, 0, 25), zz, (0, 0, 8, 0, 27), zz, (2, 16384, 0, 0, 30), zz, zz, (12, 0, 92, 0, 33), zz],
  [zz, (0, 0, 6, 0, 35), zz, (0, 0, 5, 0, 37), zz, (15, 0, 92, 0, 40), zz, zz, (0, 0, 0, 1, 41), (1, 0, 1, 3, 44), zz, zz, (0, 0, 7, 0, 46), zz, (14, 0, 64, 0, 49), zz],
  [zz, (0, 0, 6, 0, 51), zz, (10, 0, 5, 0, 53), zz, (0, 0, 7, 0, 55), zz, (2, 2, 0, 0, 56), (18, 0, 0, 0, 57), (10, 0, 7, 0, 59), zz, (0, 0, 0, 1, 60), (2, 0, 0, 0, 61), (8, 0, 1, 3, 64), zz, zz],
  [(0, 0, 0, 1, 65), (0, 0, 6, 0, 67), zz, (0, 0, 2, 0, 68), (0, 0, 3, 0, 69), (0, 0, 4, 0, 71), zz, (3, 0, 5, 21, 74), zz, zz, (10, 0, 6, 0, 76), zz, (0, 0, 0, 1, 77), (20, 0, 0, 0, 78), (1, 0, 1, 3, 81), zz],
  [zz, (2, 1, 0, 0, 82), (9, 0, 0, 0, 83), (8, 0, 1, 3, 86), zz, zz, (13, 1, 8, 0, 89), zz, zz, (4, 0, 25, 0, 92), zz, zz, (0, 0, 1, 0, 93), (10, 0, 6, 0, 95), zz, (2, 0, 0, 0, 96)],
  [(10, 0, 8, 0, 98), zz, (0, 0, 8, 0, 100), zz, (0, 0, 0, 1, 101), (1, 0, 1, 3, 104), zz, zz, (12, 0, 125, 0, 107), zz, zz, (0, 0, 0, 1, 108), (0, 0, 6, 0, 110), zz, (0, 0, 2, 0, 111), (0, 0, 3, 0, 112)],
  [(0, 0, 4, 0, 114), zz, (3, 0, 5, 21, 117), zz, zz, (10, 0, 6, 0, 119), zz, (13, 1, 8, 0, 122), zz, zz, (4, 0, 98, 0, 125), zz, zz, (0, 0, 1, 0, 126), (10, 0, 8, 0, 128), zz],
  [(0, 0, 0, 1, 129), (2, 0, 0, 0, 130), (8, 0, 1, 2, 133), zz, zz, (0, 0, 8, 0, 135), zz, (0, 0, 6, 0, 137), zz, (15, 0, 187, 0, 140), zz, zz, (0, 0, 0, 1, 141), (1, 0, 1, 2, 144), zz, zz],
  [(2, 16384, 0, 0, 147), zz, zz, (12, 0, 187, 0, 150), zz, zz, (0, 0, 0, 1, 151), (0, 0, 8, 0, 153), zz, (0, 0, 2, 0, 154), (0, 0, 3, 0, 155), (0, 0, 4, 0, 157), zz, (3, 0, 5, 21, 160), zz, zz],
  [(10, 0, 8, 0, 162), zz, (0, 0, 0, 1, 163), (0, 0, 6, 0, 165), zz, (0, 0, 2, 0, 166), (0, 0, 3, 0, 167), (0, 0, 4, 0, 169), zz, (3, 0, 5, 21, 172), zz, zz, (10, 0, 6, 0, 174), zz, (0, 0, 0, 1, 175), (20, 0, 0, 0, 176)],
  [(1, 0, 1, 2, 179), zz, zz, (2, 1, 0, 0, 180), (9, 0, 0, 0, 181), (8, 0, 1, 2, 184), zz, zz, (4, 0, 133, 0, 187), zz, zz, (0, 0, 0, 1, 188), (0, 0, 0, 1, 189), (1, 0, 1, 3, 192), zz, zz],
  [(2, 1, 0, 0, 193), (14, 0, 201, 0, 196), zz, zz, (0, 0, 8, 0, 198), zz, (4, 0, 202, 0, 201), zz, zz, (2, -1, 0, 0, 202), (8, 0, 1, 1, 205), zz, zz, (19, 0, 0, 0, 206)]]
/-- X1_next -/
def pg5 : List (List In) := [[(0, 0, 1, 0, 1), (10, 0, 5, 0, 3), zz, (2, 0, 0, 0, 4), (10, 0, 6, 0, 6), zz, (0, 0, 6, 0, 8), zz, (0, 0, 0, 1, 9), (1, 0, 1, 0, 12), zz, zz, (1, 0, 7, 1, 15), zz, zz, (12, 0, 84, 0, 18)],
  [zz, zz, (0, 0, 2, 0, 19), (11, 0, 26, 0, 22), zz, zz, (0, 0, 1, 0, 23), (4, 0, 28, 0, 26), zz, zz, (0, 0, 5, 0, 28), zz, (10, 0, 7, 0, 30), zz, (0, 0, 6, 0, 32), zz],
  [(0, 0, 3, 0, 33), (14, 0, 41, 0, 36), zz, zz, (0, 0, 4, 0, 38), zz, (4, 0, 65, 0, 41), zz, zz, (0, 0, 0, 1, 42), (1, 0, 1, 0, 45), zz, zz, (1, 0, 7, 0, 48), zz, zz],
  [(0, 0, 6, 0, 50), zz, (28, 0, 0, 0, 51), (0, 0, 7, 0, 53), zz, (2, 9, 0, 0, 55), zz, (0, 0, 0, 1, 56), (1, 0, 1, 0, 59), zz, zz, (1, 0, 7, 1, 62), zz, zz, (3, 0, 9, 28, 65), zz],
  [zz, (10, 0, 8, 0, 67), zz, (0, 0, 5, 0, 69), zz, (0, 0, 6, 0, 71), zz, (0, 0, 8, 0, 73), zz, (3, 0, 90, 3, 76), zz, zz, (10, 0, 5, 0, 78), zz, (13, 1, 6, 0, 81), zz],
  [zz, (4, 0, 6, 0, 84), zz, zz, (0, 0, 5, 0, 86), zz, (5, 0, 0, 0, 87)]]
/-- X2_begin -/
def pg6 : List (List In) := [[(0, 0, 0, 1, 1), (1, 0, 2, 2, 4), zz, zz, (3, 0, 35, 49, 7), zz, zz, (0, 0, 0, 1, 8), (2, 0, 0, 0, 9), (8, 0, 2, 3, 12), zz, zz, (0, 0, 0, 1, 13), (2, 0, 0, 0, 14), (8, 0, 2, 4, 17), zz],
  [zz, (0, 0, 0, 1, 18), (2, 0, 0, 0, 19), (8, 0, 2, 6, 22), zz, zz, (19, 0, 0, 0, 23)]]
/-- X2_exchange -/
def pg7 : List (List In) := [[(0, 0, 0, 1, 1), (1, 0, 2, 2, 4), zz, zz, (10, 0, 2, 1, 5), (0, 0, 0, 1, 6), (0, 0, 1, 1, 7), (8, 0, 2, 2, 10), zz, zz, (0, 0, 0, 1, 11), (2, 0, 0, 0, 12), (8, 0, 2, 6, 15), zz, zz, (0, 0, 2, 1, 16)],
  [(51, 0, 0, 0, 17)]]
/-- X2_allowed -/
def pg8 : List (List In) := [[(0, 0, 0, 1, 1), (1, 0, 2, 1, 4), zz, zz, (0, 0, 0, 1, 5), (1, 0, 2, 0, 8), zz, zz, (0, 0, 1, 0, 9), (0, 0, 2, 0, 10), (0, 0, 3, 0, 11), (3, 0, 31, 45, 14), zz, zz, (0, 0, 0, 1, 15), (1, 0, 2, 2, 18)],
  [zz, zz, (0, 0, 0, 1, 19), (1, 0, 2, 1, 22), zz, zz, (3, 0, 40, 50, 25), zz, zz, (5, 0, 0, 0, 26)]]
/-- X2_allowedOften -/
def pg9 : List (List In) := [[(0, 0, 0, 1, 1), (1, 0, 2, 6, 4), zz, zz, (0, 0, 2, 0, 5), (15, 0, 21, 0, 8), zz, zz, (0, 0, 0, 1, 9), (1, 0, 2, 5, 12), zz, zz, (2, 0, 0, 0, 13), (3, 0, 166, 2, 16), zz, zz],
  [(0, 0, 0, 1, 17), (0, 0, 2, 0, 18), (8, 0, 2, 6, 21), zz, zz, (0, 0, 1, 0, 22), (2, 1, 0, 0, 23), (2, 2, 0, 0, 24), (0, 0, 0, 1, 25), (1, 0, 2, 0, 28), zz, zz, (18, 0, 0, 0, 29), (23, 0, 0, 0, 30), (2, 1, 0, 0, 31), (17, 0, 0, 0, 32)],
  [(25, 0, 0, 0, 33), (10, 0, 4, 0, 35), zz, (0, 0, 1, 0, 36), (2, 2, 0, 0, 37), (0, 0, 0, 1, 38), (1, 0, 2, 0, 41), zz, zz, (18, 0, 0, 0, 42), (2, 2, 0, 0, 43), (9, 0, 0, 0, 44), (30, 0, 0, 0, 45), (2, 2, 0, 0, 46), (0, 0, 0, 1, 47), (1, 0, 2, 0, 50)],
  [zz, zz, (18, 0, 0, 0, 51), (23, 0, 0, 0, 52), (10, 0, 5, 0, 54), zz, (0, 0, 4, 0, 56), zz, (0, 0, 5, 0, 58), zz, (33, 0, 0, 0, 59), (2, 3, 0, 0, 60), (30, 0, 0, 0, 61), (2, 127, 0, 0, 63), zz, (25, 0, 0, 0, 64)],
  [(10, 0, 6, 0, 66), zz, (2, 4, 0, 0, 67), (0, 0, 4, 0, 69), zz, (0, 0, 5, 0, 71), zz, (33, 0, 0, 0, 72), (2, 7, 0, 0, 74), zz, (25, 0, 0, 0, 75), (18, 0, 0, 0, 76), (10, 0, 7, 0, 78), zz, (0, 0, 0, 1, 79), (1, 0, 2, 5, 82)],
  [zz, zz, (0, 0, 6, 0, 84), zz, (7, 0, 0, 0, 85), (0, 0, 7, 0, 87), zz, (30, 0, 0, 0, 88), (2, 15, 0, 0, 90), zz, (25, 0, 0, 0, 91), (10, 0, 8, 0, 93), zz, (0, 0, 8, 0, 95), zz, (11, 0, 142, 0, 98)],
  [zz, zz, (0, 0, 0, 1, 99), (1, 0, 2, 1, 102), zz, zz, (0, 0, 0, 1, 103), (1, 0, 2, 0, 106), zz, zz, (0, 0, 1, 0, 107), (0, 0, 2, 0, 108), (0, 0, 3, 0, 109), (3, 0, 31, 45, 112), zz, zz],
  [(0, 0, 0, 1, 113), (1, 0, 2, 2, 116), zz, zz, (0, 0, 0, 1, 117), (1, 0, 2, 1, 120), zz, zz, (3, 0, 40, 50, 123), zz, zz, (2, 1, 0, 0, 124), (9, 0, 0, 0, 125), (10, 0, 8, 0, 127), zz, (0, 0, 0, 1, 128)],
  [(1, 0, 2, 5, 131), zz, zz, (0, 0, 6, 0, 133), zz, (39, 0, 0, 0, 134), (7, 0, 0, 0, 135), (0, 0, 8, 0, 137), zz, (0, 0, 7, 0, 139), zz, (23, 0, 0, 0, 140), (33, 0, 0, 0, 141), (16, 0, 0, 0, 142), (0, 0, 8, 0, 144), zz],
  [(2, 1, 0, 0, 145), (17, 0, 0, 0, 146), (5, 0, 0, 0, 147)]]
/-- X2_softness -/
def pg10 : List (List In) := [[(0, 0, 0, 1, 1), (1, 0, 2, 1, 4), zz, zz, (0, 0, 0, 1, 5), (1, 0, 2, 0, 8), zz, zz, (0, 0, 1, 0, 9), (2, 9, 0, 0, 11), zz, (0, 0, 2, 0, 12), (3, 0, 31, 45, 15), zz, zz, (2, 0, 0, 0, 16)],
  [(10, 0, 3, 0, 17), (0, 0, 3, 0, 18), (2, 3, 0, 0, 19), (27, 0, 54, 0, 22), zz, zz, (0, 0, 0, 1, 23), (1, 0, 2, 2, 26), zz, zz, (0, 0, 3, 0, 27), (2, 0, 0, 0, 28), (0, 0, 1, 0, 29), (0, 0, 0, 1, 30), (1, 0, 2, 0, 33), zz],
  [zz, (3, 0, 89, 2, 36), zz, zz, (0, 0, 0, 1, 37), (1, 0, 2, 1, 40), zz, zz, (3, 0, 43, 5, 43), zz, zz, (6, 0, 48, 0, 46), zz, zz, (0, 0, 3, 0, 47), (5, 0, 0, 0, 48)],
  [(13, 1, 3, 0, 51), zz, zz, (4, 0, 17, 0, 54), zz, zz, (2, -1, 0, 0, 55), (5, 0, 0, 0, 56)]]
/-- X3_read -/
def pg11 : List (List In) := [[(0, 0, 0, 1, 1), (2, 0, 0, 0, 2), (8, 0, 3, 12, 5), zz, zz, (0, 0, 0, 1, 6), (2, -1, 0, 0, 7), (8, 0, 3, 13, 10), zz, zz, (0, 0, 0, 1, 11), (1, 0, 3, 11, 14), zz, zz, (3, 0, 36, 49, 17), zz],
  [zz, (0, 0, 0, 1, 18), (3, 0, 12, 33, 21), zz, zz, (0, 0, 0, 1, 22), (2, 0, 0, 0, 23), (8, 0, 3, 5, 26), zz, zz, (2, 1, 0, 0, 27), (10, 0, 1, 0, 28), (2, 0, 0, 0, 29), (10, 0, 2, 0, 30), (0, 0, 2, 0, 31), (2, 121, 0, 0, 33)],
  [zz, (12, 0, 62, 0, 36), zz, zz, (0, 0, 1, 0, 37), (6, 0, 62, 0, 40), zz, zz, (0, 0, 0, 1, 41), (3, 0, 15, 33, 44), zz, zz, (11, 0, 49, 0, 47), zz, zz, (2, 0, 0, 0, 48)],
  [(54, 0, 0, 0, 49), (0, 0, 0, 1, 50), (26, 0, 0, 0, 52), zz, (3, 0, 27, 34, 55), zz, zz, (10, 0, 1, 0, 56), (13, 1, 2, 0, 59), zz, zz, (4, 0, 30, 0, 62), zz, zz, (0, 0, 0, 1, 63), (1, 0, 3, 1, 66)],
  [zz, zz, (0, 0, 0, 1, 67), (1, 0, 3, 5, 70), zz, zz, (7, 0, 0, 0, 71), (2, 4, 0, 0, 72), (15, 0, 83, 0, 75), zz, zz, (0, 0, 0, 1, 76), (2, 1, 0, 0, 77), (3, 0, 30, 34, 80), zz, zz],
  [(6, 0, 87, 0, 83), zz, zz, (2, 1, 0, 0, 84), (4, 0, 88, 0, 87), zz, zz, (2, 0, 0, 0, 88), (54, 0, 0, 0, 89)]]
/-- X3_split -/
def pg12 : List (List In) := [[(0, 0, 0, 1, 1), (2, 0, 0, 0, 2), (8, 0, 3, 4, 5), zz, zz, (2, 0, 0, 0, 6), (10, 0, 1, 0, 7), (2, 0, 0, 0, 8), (10, 0, 2, 0, 9), (0, 0, 2, 0, 10), (0, 0, 0, 1, 11), (1, 0, 3, 0, 14), zz, zz, (1, 0, 6, 1, 17), zz],
  [zz, (12, 0, 105, 0, 20), zz, zz, (0, 0, 0, 1, 21), (1, 0, 3, 0, 24), zz, zz, (1, 0, 6, 0, 27), zz, zz, (0, 0, 2, 0, 28), (7, 0, 0, 0, 29), (3, 0, 14, 1, 32), zz, zz],
  [(10, 0, 3, 0, 33), (0, 0, 3, 0, 34), (2, 1, 0, 0, 35), (15, 0, 43, 0, 38), zz, zz, (0, 0, 3, 0, 39), (2, 2, 0, 0, 40), (14, 0, 47, 0, 43), zz, zz, (2, 1, 0, 0, 44), (4, 0, 48, 0, 47), zz, zz, (2, 0, 0, 0, 48)],
  [(10, 0, 4, 0, 50), zz, (0, 0, 4, 0, 52), zz, (6, 0, 84, 0, 55), zz, zz, (0, 0, 3, 0, 56), (0, 0, 1, 0, 57), (14, 0, 84, 0, 60), zz, zz, (0, 0, 0, 1, 61), (1, 0, 3, 4, 64), zz, zz],
  [(31, 0, 84, 0, 67), zz, zz, (0, 0, 0, 1, 68), (1, 0, 3, 3, 71), zz, zz, (0, 0, 0, 1, 72), (1, 0, 3, 4, 75), zz, zz, (2, 1, 0, 0, 76), (17, 0, 0, 0, 77), (0, 0, 2, 0, 78), (2, 1, 0, 0, 79), (9, 0, 0, 0, 80)],
  [(16, 0, 0, 0, 81), (4, 0, 97, 0, 84), zz, zz, (0, 0, 3, 0, 85), (6, 0, 97, 0, 88), zz, zz, (0, 0, 0, 1, 89), (0, 0, 3, 0, 90), (0, 0, 2, 0, 91), (0, 0, 2, 0, 92), (2, 1, 0, 0, 93), (9, 0, 0, 0, 94), (3, 0, 13, 36, 97), zz],
  [zz, (0, 0, 3, 0, 98), (10, 0, 1, 0, 99), (13, 1, 2, 0, 102), zz, zz, (4, 0, 9, 0, 105), zz, zz, (0, 0, 0, 1, 106), (2, 4, 0, 0, 107), (0, 0, 0, 1, 108), (1, 0, 3, 0, 111), zz, zz, (1, 0, 6, 1, 114)],
  [zz, zz, (0, 0, 0, 1, 115), (1, 0, 3, 0, 118), zz, zz, (1, 0, 6, 1, 121), zz, zz, (3, 0, 13, 36, 124), zz, zz, (19, 0, 0, 0, 125)]]
/-- X3_addToken -/
def pg13 : List (List In) := [[(0, 0, 0, 1, 1), (1, 0, 3, 4, 4), zz, zz, (2, 121, 0, 0, 6), zz, (12, 0, 49, 0, 9), zz, zz, (0, 0, 0, 1, 10), (1, 0, 3, 1, 13), zz, zz, (0, 0, 0, 1, 14), (1, 0, 3, 4, 17), zz],
  [zz, (0, 0, 1, 0, 18), (16, 0, 0, 0, 19), (0, 0, 0, 1, 20), (1, 0, 3, 2, 23), zz, zz, (0, 0, 0, 1, 24), (1, 0, 3, 4, 27), zz, zz, (0, 0, 2, 0, 28), (16, 0, 0, 0, 29), (0, 0, 0, 1, 30), (1, 0, 3, 3, 33), zz],
  [zz, (0, 0, 0, 1, 34), (1, 0, 3, 4, 37), zz, zz, (0, 0, 3, 0, 38), (16, 0, 0, 0, 39), (0, 0, 0, 1, 40), (20, 0, 0, 0, 41), (1, 0, 3, 4, 44), zz, zz, (2, 1, 0, 0, 45), (9, 0, 0, 0, 46), (8, 0, 3, 4, 49), zz],
  [zz, (19, 0, 0, 0, 50)]]
/-- X3_kindOf -/
def pg14 : List (List In) := [[(0, 0, 0, 0, 1), (2, 32, 0, 0, 3), zz, (14, 0, 8, 0, 6), zz, zz, (2, 0, 0, 0, 7), (5, 0, 0, 0, 8), (0, 0, 0, 0, 9), (2, 97, 0, 0, 11), zz, (22, 0, 22, 0, 14), zz, zz, (0, 0, 0, 0, 15), (2, 122, 0, 0, 17)],
  [zz, (27, 0, 22, 0, 20), zz, zz, (2, 1, 0, 0, 21), (5, 0, 0, 0, 22), (0, 0, 0, 0, 23), (2, 48, 0, 0, 25), zz, (22, 0, 38, 0, 28), zz, zz, (0, 0, 0, 0, 29), (2, 57, 0, 0, 31), zz, (27, 0, 38, 0, 34)],
  [zz, zz, (2, 2, 0, 0, 35), (4, 0, 39, 0, 38), zz, zz, (2, 3, 0, 0, 39), (5, 0, 0, 0, 40)]]
/-- X3_readRule -/
def pg15 : List (List In) := [[(0, 0, 0, 1, 1), (3, 0, 16, 33, 4), zz, zz, (6, 0, 28, 0, 7), zz, zz, (0, 0, 0, 1, 8), (26, 0, 1, 0, 10), zz, (3, 0, 27, 34, 13), zz, zz, (6, 0, 24, 0, 16), zz, zz],
  [(0, 0, 0, 1, 17), (2, 0, 0, 0, 18), (3, 0, 17, 34, 21), zz, zz, (6, 0, 28, 0, 24), zz, zz, (2, 1, 0, 0, 25), (4, 0, 29, 0, 28), zz, zz, (2, 0, 0, 0, 29), (54, 0, 0, 0, 30)]]
/-- X3_readMuch -/
def pg16 : List (List In) := [[(2, 0, 0, 0, 1), (10, 0, 1, 0, 2), (0, 0, 0, 1, 3), (2, 0, 0, 0, 4), (8, 0, 3, 6, 7), zz, zz, (0, 0, 0, 1, 8), (26, 0, 2, 0, 10), zz, (3, 0, 27, 34, 13), zz, zz, (6, 0, 21, 0, 16), zz, zz],
  [(2, 2, 0, 0, 17), (10, 0, 1, 0, 18), (4, 0, 68, 0, 21), zz, zz, (0, 0, 0, 1, 22), (26, 0, 3, 0, 24), zz, (3, 0, 27, 34, 27), zz, zz, (6, 0, 35, 0, 30), zz, zz, (2, 3, 0, 0, 31), (10, 0, 1, 0, 32)],
  [(4, 0, 68, 0, 35), zz, zz, (0, 0, 0, 1, 36), (26, 0, 4, 0, 38), zz, (3, 0, 27, 34, 41), zz, zz, (6, 0, 57, 0, 44), zz, zz, (2, 1, 0, 0, 45), (10, 0, 1, 0, 46), (0, 0, 0, 1, 47), (2, 0, 0, 0, 48)],
  [(2, 5, 0, 0, 49), (3, 0, 26, 35, 52), zz, zz, (11, 0, 68, 0, 55), zz, zz, (2, 0, 0, 0, 56), (54, 0, 0, 0, 57), (0, 0, 0, 1, 58), (2, 0, 0, 0, 59), (2, 3, 0, 0, 60), (3, 0, 26, 35, 63), zz, zz, (11, 0, 68, 0, 66)],
  [zz, zz, (2, 0, 0, 0, 67), (54, 0, 0, 0, 68), (0, 0, 0, 1, 69), (1, 0, 3, 11, 72), zz, zz, (0, 0, 1, 0, 73), (0, 0, 0, 1, 74), (1, 0, 3, 6, 77), zz, zz, (3, 0, 37, 51, 80), zz, zz],
  [(2, 1, 0, 0, 81), (54, 0, 0, 0, 82)]]
/-- X3_readSome -/
def pg17 : List (List In) := [[(2, 1, 0, 0, 1), (10, 0, 2, 0, 2), (2, 0, 0, 0, 3), (10, 0, 3, 0, 4), (0, 0, 3, 0, 5), (2, 121, 0, 0, 7), zz, (12, 0, 100, 0, 10), zz, zz, (0, 0, 2, 0, 11), (6, 0, 100, 0, 14), zz, zz, (0, 0, 0, 1, 15), (0, 0, 1, 0, 16)],
  [(3, 0, 18, 34, 19), zz, zz, (11, 0, 24, 0, 22), zz, zz, (2, 0, 0, 0, 23), (54, 0, 0, 0, 24), (2, 0, 0, 0, 25), (10, 0, 4, 0, 27), zz, (0, 0, 4, 0, 29), zz, (2, 121, 0, 0, 31), zz, (12, 0, 71, 0, 34)],
  [zz, zz, (0, 0, 0, 1, 35), (26, 0, 5, 0, 37), zz, (3, 0, 27, 34, 40), zz, zz, (6, 0, 71, 0, 43), zz, zz, (0, 0, 0, 1, 44), (0, 0, 1, 0, 45), (3, 0, 18, 34, 48), zz, zz],
  [(11, 0, 53, 0, 51), zz, zz, (2, 0, 0, 0, 52), (54, 0, 0, 0, 53), (0, 0, 0, 1, 54), (1, 0, 3, 11, 57), zz, zz, (2, 1, 0, 0, 58), (2, 0, 0, 0, 59), (2, 0, 0, 0, 60), (2, -1, 0, 0, 61), (2, -1, 0, 0, 62), (3, 0, 38, 54, 65), zz],
  [zz, (13, 1, 4, 0, 68), zz, zz, (4, 0, 27, 0, 71), zz, zz, (0, 0, 3, 0, 72), (31, 0, 87, 0, 75), zz, zz, (0, 0, 0, 1, 76), (1, 0, 3, 11, 79), zz, zz, (2, 2, 0, 0, 80)],
  [(2, 0, 0, 0, 81), (2, 0, 0, 0, 82), (2, -1, 0, 0, 83), (2, -1, 0, 0, 84), (3, 0, 38, 54, 87), zz, zz, (0, 0, 0, 1, 88), (26, 0, 6, 0, 90), zz, (3, 0, 27, 34, 93), zz, zz, (10, 0, 2, 0, 94), (13, 1, 3, 0, 97), zz],
  [zz, (4, 0, 4, 0, 100), zz, zz, (2, 1, 0, 0, 101), (54, 0, 0, 0, 102)]]
/-- X3_readOne -/
def pg18 : List (List In) := [[(0, 0, 0, 1, 1), (26, 0, 7, 0, 3), zz, (3, 0, 28, 34, 6), zz, zz, (11, 0, 18, 0, 9), zz, zz, (0, 0, 0, 1, 10), (2, 40, 0, 0, 12), zz, (3, 0, 29, 34, 15), zz, zz, (6, 0, 40, 0, 18)],
  [zz, zz, (0, 0, 1, 0, 19), (2, 6, 0, 0, 21), zz, (12, 0, 34, 0, 24), zz, zz, (0, 0, 0, 1, 25), (0, 0, 1, 0, 26), (2, 1, 0, 0, 27), (9, 0, 0, 0, 28), (3, 0, 19, 34, 31), zz, zz, (4, 0, 39, 0, 34)],
  [zz, zz, (0, 0, 0, 1, 35), (2, 4, 0, 0, 36), (3, 0, 30, 34, 39), zz, zz, (54, 0, 0, 0, 40), (0, 0, 0, 1, 41), (3, 0, 20, 33, 44), zz, zz, (0, 0, 0, 1, 45), (26, 0, 8, 0, 47), zz, (3, 0, 27, 34, 50)],
  [zz, zz, (6, 0, 83, 0, 53), zz, zz, (0, 0, 0, 1, 54), (3, 0, 23, 33, 57), zz, zz, (6, 0, 81, 0, 60), zz, zz, (0, 0, 0, 1, 61), (26, 0, 9, 0, 63), zz, (3, 0, 25, 34, 66)],
  [zz, zz, (6, 0, 81, 0, 69), zz, zz, (0, 0, 0, 1, 70), (2, 3, 0, 0, 71), (3, 0, 21, 34, 74), zz, zz, (6, 0, 81, 0, 77), zz, zz, (2, 1, 0, 0, 78), (4, 0, 82, 0, 81), zz],
  [zz, (2, 0, 0, 0, 82), (54, 0, 0, 0, 83), (0, 0, 0, 1, 84), (26, 0, 10, 0, 86), zz, (3, 0, 27, 34, 89), zz, zz, (6, 0, 122, 0, 92), zz, zz, (0, 0, 0, 1, 93), (3, 0, 24, 33, 96), zz, zz],
  [(6, 0, 120, 0, 99), zz, zz, (0, 0, 0, 1, 100), (26, 0, 11, 0, 102), zz, (3, 0, 25, 34, 105), zz, zz, (6, 0, 120, 0, 108), zz, zz, (0, 0, 0, 1, 109), (2, 4, 0, 0, 110), (3, 0, 21, 34, 113), zz],
  [zz, (6, 0, 120, 0, 116), zz, zz, (2, 1, 0, 0, 117), (4, 0, 121, 0, 120), zz, zz, (2, 0, 0, 0, 121), (54, 0, 0, 0, 122), (0, 0, 0, 1, 123), (26, 0, 12, 0, 125), zz, (3, 0, 27, 34, 128), zz, zz],
  [(6, 0, 171, 0, 131), zz, zz, (0, 0, 0, 1, 132), (2, 0, 0, 0, 133), (2, 6, 0, 0, 135), zz, (3, 0, 22, 35, 138), zz, zz, (6, 0, 169, 0, 141), zz, zz, (0, 0, 0, 1, 142), (3, 0, 24, 33, 145), zz],
  [zz, (6, 0, 169, 0, 148), zz, zz, (0, 0, 0, 1, 149), (26, 0, 11, 0, 151), zz, (3, 0, 25, 34, 154), zz, zz, (6, 0, 169, 0, 157), zz, zz, (0, 0, 0, 1, 158), (2, 5, 0, 0, 159), (3, 0, 21, 34, 162)],
  [zz, zz, (6, 0, 169, 0, 165), zz, zz, (2, 1, 0, 0, 166), (4, 0, 170, 0, 169), zz, zz, (2, 0, 0, 0, 170), (54, 0, 0, 0, 171), (0, 0, 0, 1, 172), (26, 0, 13, 0, 174), zz, (3, 0, 27, 34, 177), zz],
  [zz, (6, 0, 205, 0, 180), zz, zz, (0, 0, 0, 1, 181), (2, 0, 0, 0, 182), (2, 18, 0, 0, 184), zz, (3, 0, 22, 35, 187), zz, zz, (6, 0, 203, 0, 190), zz, zz, (0, 0, 0, 1, 191), (2, 6, 0, 0, 193)],
  [zz, (3, 0, 21, 34, 196), zz, zz, (6, 0, 203, 0, 199), zz, zz, (2, 1, 0, 0, 200), (4, 0, 204, 0, 203), zz, zz, (2, 0, 0, 0, 204), (54, 0, 0, 0, 205), (0, 0, 0, 1, 206), (26, 0, 14, 0, 208), zz],
  [(3, 0, 27, 34, 211), zz, zz, (6, 0, 239, 0, 214), zz, zz, (0, 0, 0, 1, 215), (2, 1, 0, 0, 216), (2, 9, 0, 0, 218), zz, (3, 0, 22, 35, 221), zz, zz, (6, 0, 237, 0, 224), zz, zz],
  [(0, 0, 0, 1, 225), (2, 7, 0, 0, 227), zz, (3, 0, 21, 34, 230), zz, zz, (6, 0, 237, 0, 233), zz, zz, (2, 1, 0, 0, 234), (4, 0, 238, 0, 237), zz, zz, (2, 0, 0, 0, 238), (54, 0, 0, 0, 239), (0, 0, 0, 1, 240)],
  [(2, 1, 0, 0, 241), (3, 0, 30, 34, 244), zz, zz, (54, 0, 0, 0, 245)]]
/-- X3_readDeeper -/
def pg19 : List (List In) := [[(0, 0, 0, 1, 1), (26, 0, 7, 0, 3), zz, (3, 0, 27, 34, 6), zz, zz, (6, 0, 33, 0, 9), zz, zz, (0, 0, 0, 1, 10), (0, 0, 1, 0, 11), (3, 0, 18, 34, 14), zz, zz, (11, 0, 19, 0, 17), zz],
  [zz, (2, 0, 0, 0, 18), (54, 0, 0, 0, 19), (0, 0, 0, 1, 20), (1, 0, 3, 11, 23), zz, zz, (2, 0, 0, 0, 24), (2, 0, 0, 0, 25), (2, 0, 0, 0, 26), (2, -1, 0, 0, 27), (2, -1, 0, 0, 28), (3, 0, 38, 54, 31), zz, zz, (2, 1, 0, 0, 32)],
  [(54, 0, 0, 0, 33), (0, 0, 0, 1, 34), (20, 0, 0, 0, 35), (1, 0, 3, 5, 38), zz, zz, (2, 1, 0, 0, 39), (9, 0, 0, 0, 40), (8, 0, 3, 5, 43), zz, zz, (0, 0, 0, 1, 44), (0, 0, 1, 0, 45), (3, 0, 17, 34, 48), zz, zz],
  [(11, 0, 53, 0, 51), zz, zz, (2, 0, 0, 0, 52), (54, 0, 0, 0, 53), (0, 0, 0, 1, 54), (2, 41, 0, 0, 56), zz, (3, 0, 29, 34, 59), zz, zz, (11, 0, 68, 0, 62), zz, zz, (0, 0, 0, 1, 63), (2, 1, 0, 0, 64)],
  [(3, 0, 30, 34, 67), zz, zz, (54, 0, 0, 0, 68), (0, 0, 0, 1, 69), (20, 0, 0, 0, 70), (1, 0, 3, 5, 73), zz, zz, (2, 1, 0, 0, 74), (9, 0, 0, 0, 75), (8, 0, 3, 5, 78), zz, zz, (2, 1, 0, 0, 79), (54, 0, 0, 0, 80)]]
/-- X3_forgetParts -/
def pg20 : List (List In) := [[(0, 0, 0, 1, 1), (2, -1, 0, 0, 2), (8, 0, 3, 7, 5), zz, zz, (0, 0, 0, 1, 6), (2, 0, 0, 0, 7), (8, 0, 3, 8, 10), zz, zz, (0, 0, 0, 1, 11), (2, 5, 0, 0, 12), (8, 0, 3, 9, 15), zz, zz, (0, 0, 0, 1, 16)],
  [(2, -1, 0, 0, 17), (8, 0, 3, 10, 20), zz, zz, (19, 0, 0, 0, 21)]]
/-- X3_adds -/
def pg21 : List (List In) := [[(0, 0, 0, 1, 1), (1, 0, 3, 11, 4), zz, zz, (0, 0, 1, 0, 5), (0, 0, 0, 1, 6), (1, 0, 3, 8, 9), zz, zz, (0, 0, 0, 1, 10), (1, 0, 3, 9, 13), zz, zz, (0, 0, 0, 1, 14), (1, 0, 3, 7, 17), zz],
  [zz, (0, 0, 0, 1, 18), (1, 0, 3, 10, 21), zz, zz, (3, 0, 38, 54, 24), zz, zz, (2, 1, 0, 0, 25), (54, 0, 0, 0, 26)]]
/-- X3_readMany -/
def pg22 : List (List In) := [[(0, 0, 0, 1, 1), (0, 0, 1, 0, 2), (0, 0, 2, 0, 3), (3, 0, 26, 35, 6), zz, zz, (10, 0, 3, 0, 7), (0, 0, 0, 1, 8), (0, 0, 0, 1, 9), (1, 0, 3, 6, 12), zz, zz, (8, 0, 3, 7, 15), zz, zz, (0, 0, 3, 0, 16)],
  [(54, 0, 0, 0, 17)]]
/-- X3_readPerson -/
def pg23 : List (List In) := [[(0, 0, 0, 1, 1), (2, 0, 0, 0, 2), (2, 5, 0, 0, 3), (3, 0, 26, 35, 6), zz, zz, (10, 0, 1, 0, 7), (0, 0, 0, 1, 8), (0, 0, 0, 1, 9), (1, 0, 3, 6, 12), zz, zz, (8, 0, 3, 8, 15), zz, zz, (0, 0, 1, 0, 16)],
  [(54, 0, 0, 0, 17)]]
/-- X3_readRange -/
def pg24 : List (List In) := [[(0, 0, 0, 1, 1), (26, 0, 15, 0, 3), zz, (3, 0, 27, 34, 6), zz, zz, (11, 0, 11, 0, 9), zz, zz, (2, 1, 0, 0, 10), (54, 0, 0, 0, 11), (0, 0, 0, 1, 12), (2, 0, 0, 0, 13), (2, 5, 0, 0, 14), (3, 0, 26, 35, 17), zz],
  [zz, (11, 0, 22, 0, 20), zz, zz, (2, 0, 0, 0, 21), (54, 0, 0, 0, 22), (0, 0, 0, 1, 23), (0, 0, 0, 1, 24), (1, 0, 3, 6, 27), zz, zz, (8, 0, 3, 8, 30), zz, zz, (0, 0, 0, 1, 31), (26, 0, 16, 0, 33)],
  [zz, (3, 0, 27, 34, 36), zz, zz, (11, 0, 45, 0, 39), zz, zz, (0, 0, 0, 1, 40), (2, 1, 0, 0, 41), (3, 0, 30, 34, 44), zz, zz, (54, 0, 0, 0, 45), (0, 0, 0, 1, 46), (2, 0, 0, 0, 47), (2, 5, 0, 0, 48)],
  [(3, 0, 26, 35, 51), zz, zz, (11, 0, 56, 0, 54), zz, zz, (2, 0, 0, 0, 55), (54, 0, 0, 0, 56), (0, 0, 0, 1, 57), (0, 0, 0, 1, 58), (1, 0, 3, 6, 61), zz, zz, (8, 0, 3, 9, 64), zz, zz],
  [(0, 0, 0, 1, 65), (1, 0, 3, 9, 68), zz, zz, (0, 0, 0, 1, 69), (1, 0, 3, 8, 72), zz, zz, (12, 0, 91, 0, 75), zz, zz, (0, 0, 0, 1, 76), (20, 0, 0, 0, 77), (1, 0, 3, 5, 80), zz, zz],
  [(2, 1, 0, 0, 81), (17, 0, 0, 0, 82), (8, 0, 3, 5, 85), zz, zz, (0, 0, 0, 1, 86), (2, 3, 0, 0, 87), (3, 0, 30, 34, 90), zz, zz, (54, 0, 0, 0, 91), (2, 1, 0, 0, 92), (54, 0, 0, 0, 93)]]
/-- X3_readGive -/
def pg25 : List (List In) := [[(0, 0, 0, 1, 1), (0, 0, 1, 1, 2), (3, 0, 27, 34, 5), zz, zz, (11, 0, 10, 0, 8), zz, zz, (2, 1, 0, 0, 9), (54, 0, 0, 0, 10), (0, 0, 0, 1, 11), (2, 0, 0, 0, 12), (2, 3, 0, 0, 13), (3, 0, 26, 35, 16), zz, zz],
  [(10, 0, 2, 0, 17), (0, 0, 0, 1, 18), (0, 0, 0, 1, 19), (1, 0, 3, 6, 22), zz, zz, (8, 0, 3, 10, 25), zz, zz, (0, 0, 2, 0, 26), (54, 0, 0, 0, 27)]]
/-- X3_readNumber -/
def pg26 : List (List In) := [[(0, 0, 0, 1, 1), (1, 0, 3, 1, 4), zz, zz, (0, 0, 0, 1, 5), (1, 0, 3, 5, 8), zz, zz, (7, 0, 0, 0, 9), (2, 2, 0, 0, 10), (15, 0, 19, 0, 13), zz, zz, (0, 0, 0, 1, 14), (2, 1, 0, 0, 15), (3, 0, 30, 34, 18)],
  [zz, zz, (54, 0, 0, 0, 19), (0, 0, 0, 1, 20), (1, 0, 3, 3, 23), zz, zz, (0, 0, 0, 1, 24), (1, 0, 3, 5, 27), zz, zz, (7, 0, 0, 0, 28), (0, 0, 0, 1, 29), (1, 0, 3, 2, 32), zz, zz],
  [(0, 0, 0, 1, 33), (1, 0, 3, 5, 36), zz, zz, (7, 0, 0, 0, 37), (17, 0, 0, 0, 38), (2, 2, 0, 0, 39), (29, 0, 48, 0, 42), zz, zz, (0, 0, 0, 1, 43), (2, 2, 0, 0, 44), (3, 0, 30, 34, 47), zz, zz, (54, 0, 0, 0, 48)],
  [(0, 0, 0, 1, 49), (2, 0, 0, 0, 50), (8, 0, 3, 6, 53), zz, zz, (0, 0, 0, 1, 54), (1, 0, 3, 2, 57), zz, zz, (0, 0, 0, 1, 58), (1, 0, 3, 5, 61), zz, zz, (7, 0, 0, 0, 62), (10, 0, 3, 0, 63), (0, 0, 3, 0, 64)],
  [(0, 0, 0, 1, 65), (1, 0, 3, 3, 68), zz, zz, (0, 0, 0, 1, 69), (1, 0, 3, 5, 72), zz, zz, (7, 0, 0, 0, 73), (12, 0, 106, 0, 76), zz, zz, (0, 0, 0, 1, 77), (2, 10, 0, 0, 79), zz, (0, 0, 0, 1, 80)],
  [(1, 0, 3, 6, 83), zz, zz, (18, 0, 0, 0, 84), (0, 0, 0, 1, 85), (1, 0, 3, 0, 88), zz, zz, (1, 0, 6, 0, 91), zz, zz, (0, 0, 3, 0, 92), (7, 0, 0, 0, 93), (9, 0, 0, 0, 94), (2, 48, 0, 0, 96), zz],
  [(17, 0, 0, 0, 97), (8, 0, 3, 6, 100), zz, zz, (13, 1, 3, 0, 103), zz, zz, (4, 0, 63, 0, 106), zz, zz, (0, 0, 0, 1, 107), (1, 0, 3, 6, 110), zz, zz, (0, 0, 1, 0, 111), (22, 0, 122, 0, 114)],
  [zz, zz, (0, 0, 0, 1, 115), (1, 0, 3, 6, 118), zz, zz, (0, 0, 2, 0, 119), (29, 0, 128, 0, 122), zz, zz, (0, 0, 0, 1, 123), (2, 2, 0, 0, 124), (3, 0, 30, 34, 127), zz, zz, (54, 0, 0, 0, 128)],
  [(0, 0, 0, 1, 129), (20, 0, 0, 0, 130), (1, 0, 3, 5, 133), zz, zz, (2, 1, 0, 0, 134), (9, 0, 0, 0, 135), (8, 0, 3, 5, 138), zz, zz, (2, 1, 0, 0, 139), (54, 0, 0, 0, 140)]]
/-- X3_takes -/
def pg27 : List (List In) := [[(0, 0, 0, 1, 1), (0, 0, 1, 1, 2), (3, 0, 28, 34, 5), zz, zz, (10, 0, 2, 0, 6), (0, 0, 2, 0, 7), (6, 0, 20, 0, 10), zz, zz, (0, 0, 0, 1, 11), (20, 0, 0, 0, 12), (1, 0, 3, 5, 15), zz, zz, (2, 1, 0, 0, 16)],
  [(9, 0, 0, 0, 17), (8, 0, 3, 5, 20), zz, zz, (0, 0, 2, 0, 21), (54, 0, 0, 0, 22)]]
/-- X3_isWord -/
def pg28 : List (List In) := [[(0, 0, 0, 1, 1), (1, 0, 3, 1, 4), zz, zz, (0, 0, 0, 1, 5), (1, 0, 3, 5, 8), zz, zz, (7, 0, 0, 0, 9), (2, 1, 0, 0, 10), (14, 0, 39, 0, 13), zz, zz, (0, 0, 0, 1, 14), (1, 0, 3, 3, 17), zz],
  [zz, (0, 0, 0, 1, 18), (1, 0, 3, 5, 21), zz, zz, (7, 0, 0, 0, 22), (0, 0, 0, 1, 23), (1, 0, 3, 2, 26), zz, zz, (0, 0, 0, 1, 27), (1, 0, 3, 5, 30), zz, zz, (7, 0, 0, 0, 31), (17, 0, 0, 0, 32)],
  [(0, 0, 1, 1, 33), (52, 0, 0, 175, 36), zz, zz, (15, 0, 41, 0, 39), zz, zz, (2, 0, 0, 0, 40), (54, 0, 0, 0, 41), (2, 0, 0, 0, 42), (10, 0, 2, 0, 43), (0, 0, 2, 0, 44), (0, 0, 1, 1, 45), (52, 0, 0, 175, 48), zz, zz],
  [(12, 0, 86, 0, 51), zz, zz, (0, 0, 0, 1, 52), (1, 0, 3, 0, 55), zz, zz, (1, 0, 6, 0, 58), zz, zz, (0, 0, 0, 1, 59), (1, 0, 3, 2, 62), zz, zz, (0, 0, 0, 1, 63), (1, 0, 3, 5, 66)],
  [zz, zz, (7, 0, 0, 0, 67), (0, 0, 2, 0, 68), (9, 0, 0, 0, 69), (7, 0, 0, 0, 70), (0, 0, 1, 1, 71), (0, 0, 2, 0, 72), (53, 0, 0, 180, 75), zz, zz, (15, 0, 80, 0, 78), zz, zz, (2, 0, 0, 0, 79), (54, 0, 0, 0, 80)],
  [(13, 1, 2, 0, 83), zz, zz, (4, 0, 43, 0, 86), zz, zz, (2, 1, 0, 0, 87), (54, 0, 0, 0, 88)]]
/-- X3_isSign -/
def pg29 : List (List In) := [[(0, 0, 0, 1, 1), (1, 0, 3, 1, 4), zz, zz, (0, 0, 0, 1, 5), (1, 0, 3, 5, 8), zz, zz, (7, 0, 0, 0, 9), (2, 3, 0, 0, 10), (14, 0, 38, 0, 13), zz, zz, (0, 0, 0, 1, 14), (1, 0, 3, 0, 17), zz],
  [zz, (1, 0, 6, 0, 20), zz, zz, (0, 0, 0, 1, 21), (1, 0, 3, 2, 24), zz, zz, (0, 0, 0, 1, 25), (1, 0, 3, 5, 28), zz, zz, (7, 0, 0, 0, 29), (7, 0, 0, 0, 30), (0, 0, 1, 0, 31), (14, 0, 38, 0, 34)],
  [zz, zz, (2, 1, 0, 0, 35), (4, 0, 39, 0, 38), zz, zz, (2, 0, 0, 0, 39), (54, 0, 0, 0, 40)]]
/-- X3_fails -/
def pg30 : List (List In) := [[(0, 0, 0, 1, 1), (0, 0, 1, 0, 2), (8, 0, 3, 12, 5), zz, zz, (0, 0, 0, 1, 6), (0, 0, 0, 1, 7), (1, 0, 3, 2, 10), zz, zz, (0, 0, 0, 1, 11), (1, 0, 3, 5, 14), zz, zz, (7, 0, 0, 0, 15), (8, 0, 3, 13, 18)],
  [zz, zz, (2, 0, 0, 0, 19), (54, 0, 0, 0, 20)]]
/-- X4_look -/
def pg31 : List (List In) := [[(0, 0, 0, 1, 1), (0, 0, 1, 0, 2), (8, 0, 4, 0, 5), zz, zz, (0, 0, 0, 1, 6), (0, 0, 2, 0, 7), (0, 0, 1, 0, 8), (2, 0, 0, 0, 9), (3, 0, 90, 3, 12), zz, zz, (8, 0, 4, 1, 15), zz, zz, (0, 0, 0, 1, 16)],
  [(0, 0, 3, 0, 17), (8, 0, 4, 2, 20), zz, zz, (0, 0, 0, 1, 21), (0, 0, 4, 0, 23), zz, (8, 0, 4, 3, 26), zz, zz, (19, 0, 0, 0, 27)]]
/-- X4_least -/
def pg32 : List (List In) := [[(0, 0, 0, 1, 1), (1, 0, 4, 3, 4), zz, zz, (2, 1, 0, 0, 5), (29, 0, 12, 0, 8), zz, zz, (2, 3, 0, 0, 9), (4, 0, 13, 0, 12), zz, zz, (2, 0, 0, 0, 13), (10, 0, 1, 0, 14), (2, 0, 0, 0, 15), (10, 0, 2, 0, 16)],
  [(0, 0, 2, 0, 17), (0, 0, 0, 1, 18), (1, 0, 4, 3, 21), zz, zz, (12, 0, 56, 0, 24), zz, zz, (0, 0, 0, 1, 25), (1, 0, 4, 1, 28), zz, zz, (2, 2, 0, 0, 29), (0, 0, 2, 0, 30), (18, 0, 0, 0, 31), (30, 0, 0, 0, 32)],
  [(2, 3, 0, 0, 33), (25, 0, 0, 0, 34), (10, 0, 3, 0, 35), (0, 0, 2, 0, 36), (0, 0, 0, 1, 37), (1, 0, 4, 0, 40), zz, zz, (15, 0, 50, 0, 43), zz, zz, (0, 0, 3, 0, 44), (0, 0, 1, 0, 45), (12, 0, 50, 0, 48), zz, zz],
  [(0, 0, 3, 0, 49), (10, 0, 1, 0, 50), (13, 1, 2, 0, 53), zz, zz, (4, 0, 16, 0, 56), zz, zz, (0, 0, 1, 0, 57), (5, 0, 0, 0, 58)]]
/-- X4_most -/
def pg33 : List (List In) := [[(2, 0, 0, 0, 1), (10, 0, 1, 0, 2), (2, 0, 0, 0, 3), (10, 0, 2, 0, 4), (0, 0, 2, 0, 5), (0, 0, 0, 1, 6), (1, 0, 4, 3, 9), zz, zz, (12, 0, 36, 0, 12), zz, zz, (0, 0, 0, 1, 13), (1, 0, 4, 1, 16), zz, zz],
  [(2, 2, 0, 0, 17), (0, 0, 2, 0, 18), (18, 0, 0, 0, 19), (30, 0, 0, 0, 20), (2, 3, 0, 0, 21), (25, 0, 0, 0, 22), (10, 0, 3, 0, 23), (0, 0, 3, 0, 24), (0, 0, 1, 0, 25), (29, 0, 30, 0, 28), zz, zz, (0, 0, 3, 0, 29), (10, 0, 1, 0, 30), (13, 1, 2, 0, 33), zz],
  [zz, (4, 0, 4, 0, 36), zz, zz, (0, 0, 1, 0, 37), (5, 0, 0, 0, 38)]]
/-- X4_isSo -/
def pg34 : List (List In) := [[(0, 0, 1, 0, 1), (2, 7, 0, 0, 3), zz, (14, 0, 21, 0, 6), zz, zz, (0, 0, 0, 1, 7), (1, 0, 4, 2, 10), zz, zz, (0, 0, 4, 0, 12), zz, (27, 0, 19, 0, 15), zz, zz, (2, 1, 0, 0, 16)],
  [(4, 0, 20, 0, 19), zz, zz, (2, 0, 0, 0, 20), (54, 0, 0, 0, 21), (0, 0, 1, 0, 22), (2, 3, 0, 0, 23), (14, 0, 47, 0, 26), zz, zz, (0, 0, 0, 1, 27), (1, 0, 4, 1, 30), zz, zz, (2, 2, 0, 0, 31), (0, 0, 2, 0, 32)],
  [(18, 0, 0, 0, 33), (30, 0, 0, 0, 34), (2, 3, 0, 0, 35), (25, 0, 0, 0, 36), (0, 0, 5, 0, 38), zz, (22, 0, 45, 0, 41), zz, zz, (2, 1, 0, 0, 42), (4, 0, 46, 0, 45), zz, zz, (2, 0, 0, 0, 46), (54, 0, 0, 0, 47), (2, 0, 0, 0, 48)],
  [(10, 0, 6, 0, 50), zz, (2, 0, 0, 0, 51), (10, 0, 7, 0, 53), zz, (2, 0, 0, 0, 54), (10, 0, 8, 0, 56), zz, (2, 0, 0, 0, 57), (10, 0, 9, 0, 59), zz, (0, 0, 9, 0, 61), zz, (0, 0, 0, 1, 62), (1, 0, 4, 3, 65), zz],
  [zz, (12, 0, 135, 0, 68), zz, zz, (0, 0, 0, 1, 69), (1, 0, 4, 1, 72), zz, zz, (2, 2, 0, 0, 73), (0, 0, 9, 0, 75), zz, (18, 0, 0, 0, 76), (30, 0, 0, 0, 77), (2, 3, 0, 0, 78), (25, 0, 0, 0, 79), (10, 0, 10, 0, 81)],
  [zz, (0, 0, 8, 0, 83), zz, (0, 0, 10, 0, 85), zz, (9, 0, 0, 0, 86), (10, 0, 8, 0, 88), zz, (0, 0, 9, 0, 90), zz, (0, 0, 0, 1, 91), (1, 0, 4, 0, 94), zz, zz, (15, 0, 129, 0, 97), zz],
  [zz, (0, 0, 9, 0, 99), zz, (0, 0, 2, 0, 100), (22, 0, 129, 0, 103), zz, zz, (0, 0, 9, 0, 105), zz, (0, 0, 3, 0, 106), (27, 0, 129, 0, 109), zz, zz, (13, 1, 6, 0, 112), zz, zz],
  [(0, 0, 7, 0, 114), zz, (0, 0, 10, 0, 116), zz, (0, 0, 5, 0, 118), zz, (22, 0, 125, 0, 121), zz, zz, (2, 1, 0, 0, 122), (4, 0, 126, 0, 125), zz, zz, (2, 0, 0, 0, 126), (9, 0, 0, 0, 127), (10, 0, 7, 0, 129)],
  [zz, (13, 1, 9, 0, 132), zz, zz, (4, 0, 59, 0, 135), zz, zz, (0, 0, 1, 0, 136), (2, 6, 0, 0, 138), zz, (14, 0, 154, 0, 141), zz, zz, (0, 0, 8, 0, 143), zz, (0, 0, 4, 0, 145)],
  [zz, (22, 0, 152, 0, 148), zz, zz, (2, 1, 0, 0, 149), (4, 0, 153, 0, 152), zz, zz, (2, 0, 0, 0, 153), (54, 0, 0, 0, 154), (0, 0, 1, 0, 155), (2, 5, 0, 0, 156), (14, 0, 174, 0, 159), zz, zz, (0, 0, 7, 0, 161)],
  [zz, (0, 0, 4, 0, 163), zz, (22, 0, 170, 0, 166), zz, zz, (2, 1, 0, 0, 167), (4, 0, 186, 0, 170), zz, zz, (2, 0, 0, 0, 171), (4, 0, 186, 0, 174), zz, zz, (0, 0, 7, 0, 176), zz],
  [(0, 0, 6, 0, 178), zz, (14, 0, 185, 0, 181), zz, zz, (2, 1, 0, 0, 182), (4, 0, 186, 0, 185), zz, zz, (2, 0, 0, 0, 186), (54, 0, 0, 0, 187)]]
/-- X5_becomeZero -/
def pg35 : List (List In) := [[(0, 0, 0, 1, 1), (3, 0, 36, 49, 4), zz, zz, (0, 0, 0, 1, 5), (2, 0, 0, 0, 6), (2, 0, 0, 0, 7), (3, 0, 37, 51, 10), zz, zz, (19, 0, 0, 0, 11)]]
/-- X5_wipe -/
def pg36 : List (List In) := [[(0, 0, 0, 1, 1), (2, 0, 0, 0, 2), (8, 0, 5, 3, 5), zz, zz, (0, 0, 0, 1, 6), (2, 0, 0, 0, 7), (8, 0, 5, 8, 10), zz, zz, (0, 0, 0, 1, 11), (2, 0, 0, 0, 12), (8, 0, 5, 10, 15), zz, zz, (19, 0, 0, 0, 16)]]
/-- X5_addRule -/
def pg37 : List (List In) := [[(0, 0, 0, 1, 1), (1, 0, 5, 3, 4), zz, zz, (2, 25, 0, 0, 6), zz, (12, 0, 52, 0, 9), zz, zz, (0, 0, 0, 1, 10), (1, 0, 5, 0, 13), zz, zz, (0, 0, 0, 1, 14), (1, 0, 5, 3, 17), zz],
  [zz, (0, 0, 1, 0, 18), (16, 0, 0, 0, 19), (0, 0, 0, 1, 20), (1, 0, 5, 1, 23), zz, zz, (0, 0, 0, 1, 24), (1, 0, 5, 3, 27), zz, zz, (0, 0, 2, 0, 28), (16, 0, 0, 0, 29), (0, 0, 0, 1, 30), (1, 0, 5, 2, 33), zz],
  [zz, (0, 0, 0, 1, 34), (1, 0, 5, 3, 37), zz, zz, (0, 0, 0, 1, 38), (1, 0, 5, 8, 41), zz, zz, (16, 0, 0, 0, 42), (0, 0, 0, 1, 43), (20, 0, 0, 0, 44), (1, 0, 5, 3, 47), zz, zz, (2, 1, 0, 0, 48)],
  [(9, 0, 0, 0, 49), (8, 0, 5, 3, 52), zz, zz, (19, 0, 0, 0, 53)]]
/-- X5_addStep -/
def pg38 : List (List In) := [[(0, 0, 0, 1, 1), (1, 0, 5, 8, 4), zz, zz, (2, 40, 0, 0, 6), zz, (12, 0, 97, 0, 9), zz, zz, (0, 0, 0, 1, 10), (1, 0, 5, 3, 13), zz, zz, (31, 0, 97, 0, 16), zz, zz],
  [(0, 0, 0, 1, 17), (1, 0, 5, 4, 20), zz, zz, (0, 0, 0, 1, 21), (1, 0, 5, 8, 24), zz, zz, (0, 0, 1, 0, 25), (16, 0, 0, 0, 26), (0, 0, 0, 1, 27), (1, 0, 5, 5, 30), zz, zz, (0, 0, 0, 1, 31), (1, 0, 5, 8, 34)],
  [zz, zz, (0, 0, 2, 0, 35), (16, 0, 0, 0, 36), (0, 0, 0, 1, 37), (1, 0, 5, 6, 40), zz, zz, (0, 0, 0, 1, 41), (1, 0, 5, 8, 44), zz, zz, (0, 0, 3, 0, 45), (16, 0, 0, 0, 46), (0, 0, 0, 1, 47), (2, 2, 0, 0, 48)],
  [(0, 0, 0, 1, 49), (1, 0, 5, 8, 52), zz, zz, (18, 0, 0, 0, 53), (0, 0, 4, 0, 55), zz, (3, 0, 39, 51, 58), zz, zz, (0, 0, 0, 1, 59), (2, 2, 0, 0, 60), (0, 0, 0, 1, 61), (1, 0, 5, 8, 64), zz, zz],
  [(18, 0, 0, 0, 65), (2, 1, 0, 0, 66), (9, 0, 0, 0, 67), (0, 0, 5, 0, 69), zz, (3, 0, 39, 51, 72), zz, zz, (0, 0, 0, 1, 73), (20, 0, 0, 0, 74), (1, 0, 5, 8, 77), zz, zz, (2, 1, 0, 0, 78), (9, 0, 0, 0, 79), (8, 0, 5, 8, 82)],
  [zz, zz, (0, 0, 0, 1, 83), (1, 0, 5, 2, 86), zz, zz, (0, 0, 0, 1, 87), (1, 0, 5, 3, 90), zz, zz, (2, 1, 0, 0, 91), (17, 0, 0, 0, 92), (0, 0, 0, 1, 93), (1, 0, 5, 8, 96), zz, zz],
  [(16, 0, 0, 0, 97), (19, 0, 0, 0, 98)]]
/-- X5_addNumber -/
def pg39 : List (List In) := [[(0, 0, 0, 1, 1), (1, 0, 5, 7, 4), zz, zz, (0, 0, 1, 0, 5), (0, 0, 2, 0, 6), (2, -1, 0, 0, 7), (14, 0, 14, 0, 10), zz, zz, (2, 1, 0, 0, 11), (4, 0, 15, 0, 14), zz, zz, (0, 0, 2, 0, 15), (16, 0, 0, 0, 16)],
  [(0, 0, 2, 0, 17), (2, -1, 0, 0, 18), (15, 0, 53, 0, 21), zz, zz, (0, 0, 0, 1, 22), (1, 0, 5, 10, 25), zz, zz, (0, 0, 0, 1, 26), (1, 0, 5, 9, 29), zz, zz, (48, 0, 0, 0, 30), (12, 0, 53, 0, 33), zz],
  [zz, (0, 0, 0, 1, 34), (1, 0, 5, 9, 37), zz, zz, (0, 0, 0, 1, 38), (1, 0, 5, 10, 41), zz, zz, (0, 0, 1, 0, 42), (16, 0, 0, 0, 43), (0, 0, 0, 1, 44), (20, 0, 0, 0, 45), (1, 0, 5, 10, 48), zz, zz],
  [(2, 1, 0, 0, 49), (9, 0, 0, 0, 50), (8, 0, 5, 10, 53), zz, zz, (19, 0, 0, 0, 54)]]
/-- X5_allowed -/
def pg40 : List (List In) := [[(2, 0, 0, 0, 1), (10, 0, 2, 0, 2), (2, 0, 0, 0, 3), (10, 0, 3, 0, 4), (0, 0, 3, 0, 5), (0, 0, 0, 1, 6), (1, 0, 5, 3, 9), zz, zz, (12, 0, 67, 0, 12), zz, zz, (0, 0, 0, 1, 13), (1, 0, 5, 2, 16), zz, zz],
  [(0, 0, 3, 0, 17), (7, 0, 0, 0, 18), (0, 0, 2, 0, 19), (15, 0, 37, 0, 22), zz, zz, (0, 0, 0, 1, 23), (0, 0, 2, 0, 24), (0, 0, 0, 1, 25), (1, 0, 5, 2, 28), zz, zz, (0, 0, 3, 0, 29), (7, 0, 0, 0, 30), (0, 0, 1, 1, 31), (3, 0, 42, 52, 34)],
  [zz, zz, (6, 0, 54, 0, 37), zz, zz, (0, 0, 0, 1, 38), (1, 0, 5, 0, 41), zz, zz, (0, 0, 3, 0, 42), (7, 0, 0, 0, 43), (0, 0, 0, 1, 44), (1, 0, 5, 1, 47), zz, zz, (0, 0, 3, 0, 48)],
  [(7, 0, 0, 0, 49), (0, 0, 1, 1, 50), (3, 0, 41, 3, 53), zz, zz, (5, 0, 0, 0, 54), (0, 0, 0, 1, 55), (1, 0, 5, 2, 58), zz, zz, (0, 0, 3, 0, 59), (7, 0, 0, 0, 60), (10, 0, 2, 0, 61), (13, 1, 3, 0, 64), zz, zz],
  [(4, 0, 4, 0, 67), zz, zz, (2, 0, 0, 0, 68), (5, 0, 0, 0, 69)]]
/-- X5_much -/
def pg41 : List (List In) := [[(0, 0, 0, 0, 1), (37, 1, 0, 47, 28), zz, zz, zz, zz, zz, zz, zz, zz, zz, zz, zz, zz, zz, zz],
  [zz, zz, zz, zz, zz, zz, zz, zz, zz, zz, zz, zz, (0, 0, 2, 1, 29), (1, 0, 4, 1, 32), zz, zz],
  [(0, 0, 1, 0, 33), (3, 0, 89, 2, 36), zz, zz, (5, 0, 0, 0, 37), (0, 0, 2, 1, 38), (3, 0, 32, 41, 41), zz, zz, (5, 0, 0, 0, 42), (0, 0, 2, 1, 43), (3, 0, 33, 41, 46), zz, zz, (5, 0, 0, 0, 47), (0, 0, 1, 0, 48)],
  [(5, 0, 0, 0, 49)]]
/-- X5_holds -/
def pg42 : List (List In) := [[(2, 0, 0, 0, 1), (10, 0, 4, 0, 3), zz, (0, 0, 1, 0, 4), (10, 0, 5, 0, 6), zz, (0, 0, 5, 0, 8), zz, (0, 0, 2, 0, 9), (12, 0, 148, 0, 12), zz, zz, (0, 0, 0, 1, 13), (1, 0, 5, 4, 16), zz, zz],
  [(0, 0, 5, 0, 18), zz, (7, 0, 0, 0, 19), (37, 0, 1, 82, 44), zz, zz, zz, zz, zz, zz, zz, zz, zz, zz, zz, zz],
  [zz, zz, zz, zz, zz, zz, zz, zz, zz, zz, zz, zz, (0, 0, 4, 0, 46), zz, (2, 1, 0, 0, 47), (38, 0, 0, 0, 48)],
  [(10, 0, 4, 0, 50), zz, (4, 0, 142, 0, 53), zz, zz, (0, 0, 4, 0, 55), zz, (2, 1, 0, 0, 56), (46, 0, 0, 0, 57), (0, 0, 4, 0, 59), zz, (2, -2, 0, 0, 61), zz, (33, 0, 0, 0, 62), (25, 0, 0, 0, 63), (10, 0, 4, 0, 65)],
  [zz, (4, 0, 142, 0, 68), zz, zz, (0, 0, 4, 0, 70), zz, (2, 1, 0, 0, 71), (46, 0, 0, 0, 72), (0, 0, 4, 0, 74), zz, (2, 1, 0, 0, 75), (25, 0, 0, 0, 76), (33, 0, 0, 0, 77), (10, 0, 4, 0, 79), zz, (4, 0, 142, 0, 82)],
  [zz, zz, (0, 0, 4, 0, 84), zz, (2, 1, 0, 0, 85), (23, 0, 0, 0, 86), (10, 0, 4, 0, 88), zz, (0, 0, 3, 1, 89), (0, 0, 0, 1, 90), (1, 0, 5, 4, 93), zz, zz, (0, 0, 5, 0, 95), zz, (7, 0, 0, 0, 96)],
  [(0, 0, 0, 1, 97), (1, 0, 5, 5, 100), zz, zz, (0, 0, 5, 0, 102), zz, (7, 0, 0, 0, 103), (0, 0, 0, 1, 104), (1, 0, 5, 6, 107), zz, zz, (0, 0, 5, 0, 109), zz, (7, 0, 0, 0, 110), (0, 0, 0, 1, 111), (1, 0, 5, 7, 114)],
  [zz, zz, (2, 2, 0, 0, 115), (0, 0, 5, 0, 117), zz, (18, 0, 0, 0, 118), (7, 0, 0, 0, 119), (0, 0, 0, 1, 120), (1, 0, 5, 7, 123), zz, zz, (2, 2, 0, 0, 124), (0, 0, 5, 0, 126), zz, (18, 0, 0, 0, 127), (2, 1, 0, 0, 128)],
  [(9, 0, 0, 0, 129), (7, 0, 0, 0, 130), (3, 0, 34, 46, 133), zz, zz, (6, 0, 142, 0, 136), zz, zz, (0, 0, 4, 0, 138), zz, (2, 1, 0, 0, 139), (33, 0, 0, 0, 140), (10, 0, 4, 0, 142), zz, (13, 1, 5, 0, 145), zz],
  [zz, (4, 0, 6, 0, 148), zz, zz, (0, 0, 4, 0, 150), zz, (2, 1, 0, 0, 151), (25, 0, 0, 0, 152), (2, 1, 0, 0, 153), (14, 0, 160, 0, 156), zz, zz, (2, 1, 0, 0, 157), (4, 0, 161, 0, 160), zz, zz],
  [(2, 0, 0, 0, 161), (54, 0, 0, 0, 162)]]
/-- X5_softens -/
def pg43 : List (List In) := [[(0, 0, 1, 0, 1), (47, 0, 20, 0, 4), zz, zz, (0, 0, 0, 1, 5), (0, 0, 4, 1, 7), zz, (3, 0, 40, 50, 10), zz, zz, (0, 0, 3, 0, 11), (14, 0, 18, 0, 14), zz, zz, (2, 1, 0, 0, 15), (4, 0, 19, 0, 18)],
  [zz, zz, (2, 0, 0, 0, 19), (54, 0, 0, 0, 20), (2, 0, 0, 0, 21), (10, 0, 5, 0, 23), zz, (0, 0, 2, 0, 24), (10, 0, 6, 0, 26), zz, (0, 0, 6, 0, 28), zz, (0, 0, 0, 1, 29), (1, 0, 5, 10, 32), zz, zz],
  [(12, 0, 107, 0, 35), zz, zz, (0, 0, 5, 0, 37), zz, (11, 0, 107, 0, 40), zz, zz, (0, 0, 0, 1, 41), (1, 0, 5, 9, 44), zz, zz, (0, 0, 6, 0, 46), zz, (7, 0, 0, 0, 47), (10, 0, 7, 0, 49)],
  [zz, (0, 0, 0, 1, 50), (1, 0, 5, 7, 53), zz, zz, (0, 0, 7, 0, 55), zz, (7, 0, 0, 0, 56), (0, 0, 0, 1, 57), (0, 0, 7, 0, 59), zz, (3, 0, 44, 50, 62), zz, zz, (29, 0, 101, 0, 65), zz],
  [zz, (0, 0, 0, 1, 66), (1, 0, 5, 7, 69), zz, zz, (0, 0, 7, 0, 71), zz, (39, 0, 0, 0, 72), (7, 0, 0, 0, 73), (2, 1, 0, 0, 74), (17, 0, 0, 0, 75), (16, 0, 0, 0, 76), (0, 0, 0, 1, 77), (0, 0, 1, 0, 78), (2, 1, 0, 0, 79), (17, 0, 0, 0, 80)],
  [(0, 0, 6, 0, 82), zz, (0, 0, 3, 0, 83), (0, 0, 4, 1, 85), zz, (3, 0, 43, 5, 88), zz, zz, (10, 0, 5, 0, 90), zz, (0, 0, 0, 1, 91), (1, 0, 5, 7, 94), zz, zz, (0, 0, 7, 0, 96), zz],
  [(39, 0, 0, 0, 97), (7, 0, 0, 0, 98), (2, 1, 0, 0, 99), (9, 0, 0, 0, 100), (16, 0, 0, 0, 101), (13, 1, 6, 0, 104), zz, zz, (4, 0, 26, 0, 107), zz, zz, (0, 0, 5, 0, 109), zz, (54, 0, 0, 0, 110)]]
/-- X5_leastAt -/
def pg44 : List (List In) := [[(0, 0, 1, 0, 1), (2, 2, 0, 0, 2), (50, 0, 0, 0, 3), (11, 0, 23, 0, 6), zz, zz, (0, 0, 0, 1, 7), (1, 0, 5, 4, 10), zz, zz, (0, 0, 1, 0, 11), (2, 2, 0, 0, 12), (49, 0, 0, 0, 13), (7, 0, 0, 0, 14), (2, 7, 0, 0, 16), zz],
  [(14, 0, 23, 0, 19), zz, zz, (2, 1, 0, 0, 20), (4, 0, 24, 0, 23), zz, zz, (2, 0, 0, 0, 24), (5, 0, 0, 0, 25)]]
/-- X6_hasRoom -/
def pg45 : List (List In) := [[(0, 0, 0, 1, 1), (1, 0, 6, 1, 4), zz, zz, (0, 0, 1, 0, 5), (9, 0, 0, 0, 6), (2, 120, 0, 0, 8), zz, (27, 0, 15, 0, 11), zz, zz, (2, 1, 0, 0, 12), (4, 0, 16, 0, 15), zz, zz, (2, 0, 0, 0, 16)],
  [(54, 0, 0, 0, 17)]]
/-- X6_append -/
def pg46 : List (List In) := [[(0, 0, 1, 0, 1), (2, 1, 0, 0, 2), (17, 0, 0, 0, 3), (10, 0, 4, 0, 5), zz, (0, 0, 4, 0, 7), zz, (36, 0, 56, 0, 10), zz, zz, (0, 0, 0, 1, 11), (1, 0, 6, 1, 14), zz, zz, (2, 120, 0, 0, 16), zz],
  [(12, 0, 56, 0, 19), zz, zz, (0, 0, 0, 1, 20), (1, 0, 6, 0, 23), zz, zz, (0, 0, 0, 1, 24), (1, 0, 6, 1, 27), zz, zz, (0, 0, 2, 2, 28), (2, 8, 0, 0, 30), zz, (0, 0, 4, 0, 32), zz],
  [(18, 0, 0, 0, 33), (41, 0, 0, 0, 34), (24, 255, 1, 0, 37), zz, zz, (40, 0, 0, 0, 38), (45, 0, 0, 0, 39), (16, 0, 0, 0, 40), (0, 0, 0, 1, 41), (20, 0, 0, 0, 42), (1, 0, 6, 1, 45), zz, zz, (2, 1, 0, 0, 46), (9, 0, 0, 0, 47), (8, 0, 6, 1, 50)],
  [zz, zz, (13, -1, 4, 0, 53), zz, zz, (4, 0, 5, 0, 56), zz, zz, (19, 0, 0, 0, 57)]]
/-- X7_begin -/
def pg47 : List (List In) := [[(0, 0, 0, 1, 1), (0, 0, 1, 0, 2), (8, 0, 7, 1, 5), zz, zz, (2, 0, 0, 0, 6), (10, 0, 2, 0, 7), (0, 0, 2, 0, 8), (2, 6, 0, 0, 10), zz, (12, 0, 28, 0, 13), zz, zz, (0, 0, 0, 1, 14), (1, 0, 7, 0, 17), zz],
  [zz, (0, 0, 2, 0, 18), (28, 0, 0, 0, 19), (3, 0, 6, 25, 22), zz, zz, (13, 1, 2, 0, 25), zz, zz, (4, 0, 7, 0, 28), zz, zz, (19, 0, 0, 0, 29)]]
/-- X7_has -/
def pg48 : List (List In) := [[(0, 0, 1, 0, 1), (2, 0, 0, 0, 2), (0, 0, 0, 1, 3), (1, 0, 7, 1, 6), zz, zz, (2, 1, 0, 0, 7), (17, 0, 0, 0, 8), (3, 0, 87, 3, 11), zz, zz, (54, 0, 0, 0, 12)]]
/-- X7_hasAll -/
def pg49 : List (List In) := [[(0, 0, 1, 0, 1), (2, 0, 0, 0, 2), (2, 1, 0, 0, 3), (0, 0, 0, 1, 4), (1, 0, 7, 1, 7), zz, zz, (23, 0, 0, 0, 8), (2, 1, 0, 0, 9), (17, 0, 0, 0, 10), (3, 0, 87, 3, 13), zz, zz, (54, 0, 0, 0, 14)]]
/-- X7_hasRow -/
def pg50 : List (List In) := [[(0, 0, 1, 0, 1), (2, 0, 0, 0, 2), (0, 0, 0, 1, 3), (3, 0, 51, 65, 6), zz, zz, (2, 1, 0, 0, 7), (17, 0, 0, 0, 8), (3, 0, 87, 3, 11), zz, zz, (54, 0, 0, 0, 12)]]
/-- X7_rows -/
def pg51 : List (List In) := [[(2, 1, 0, 0, 1), (2, 2, 0, 0, 2), (0, 0, 0, 1, 3), (1, 0, 7, 1, 6), zz, zz, (18, 0, 0, 0, 7), (23, 0, 0, 0, 8), (5, 0, 0, 0, 9)]]
/-- X7_rules -/
def pg52 : List (List In) := [[(2, 0, 0, 0, 1), (10, 0, 1, 0, 2), (2, 0, 0, 0, 3), (10, 0, 2, 0, 4), (0, 0, 2, 0, 5), (0, 0, 0, 1, 6), (1, 0, 7, 1, 9), zz, zz, (12, 0, 33, 0, 12), zz, zz, (0, 0, 1, 0, 13), (0, 0, 0, 1, 14), (1, 0, 7, 0, 17), zz],
  [zz, (0, 0, 2, 0, 18), (28, 0, 0, 0, 19), (1, 0, 2, 2, 22), zz, zz, (1, 0, 5, 3, 25), zz, zz, (9, 0, 0, 0, 26), (10, 0, 1, 0, 27), (13, 1, 2, 0, 30), zz, zz, (4, 0, 4, 0, 33), zz],
  [zz, (0, 0, 1, 0, 34), (5, 0, 0, 0, 35)]]
/-- X7_growing -/
def pg53 : List (List In) := [[(2, 0, 0, 0, 1), (10, 0, 2, 0, 2), (2, 0, 0, 0, 3), (10, 0, 3, 0, 4), (0, 0, 3, 0, 5), (0, 0, 0, 1, 6), (1, 0, 7, 1, 9), zz, zz, (12, 0, 31, 0, 12), zz, zz, (0, 0, 0, 1, 13), (0, 0, 3, 0, 14), (0, 0, 1, 0, 15), (3, 0, 54, 67, 18)],
  [zz, zz, (2, -1, 0, 0, 19), (14, 0, 25, 0, 22), zz, zz, (13, 1, 2, 0, 25), zz, zz, (13, 1, 3, 0, 28), zz, zz, (4, 0, 4, 0, 31), zz, zz, (0, 0, 2, 0, 32)],
  [(5, 0, 0, 0, 33)]]
/-- X7_slipRow -/
def pg54 : List (List In) := [[(2, 0, 0, 0, 1), (10, 0, 3, 0, 2), (0, 0, 3, 0, 3), (0, 0, 0, 1, 4), (3, 0, 51, 65, 7), zz, zz, (12, 0, 37, 0, 10), zz, zz, (0, 0, 3, 0, 11), (0, 0, 1, 0, 12), (3, 0, 89, 2, 15), zz, zz, (11, 0, 31, 0, 18)],
  [zz, zz, (0, 0, 0, 1, 19), (0, 0, 1, 0, 20), (0, 0, 3, 0, 21), (0, 0, 2, 0, 22), (3, 0, 55, 68, 25), zz, zz, (2, -1, 0, 0, 26), (15, 0, 31, 0, 29), zz, zz, (0, 0, 3, 0, 30), (5, 0, 0, 0, 31), (13, 1, 3, 0, 34)],
  [zz, zz, (4, 0, 2, 0, 37), zz, zz, (2, -1, 0, 0, 38), (5, 0, 0, 0, 39)]]
/-- X7_slipBy -/
def pg55 : List (List In) := [[(0, 0, 0, 1, 1), (1, 0, 7, 0, 4), zz, zz, (0, 0, 1, 0, 5), (28, 0, 0, 0, 6), (0, 0, 2, 0, 7), (0, 0, 3, 0, 8), (0, 0, 0, 1, 9), (1, 0, 7, 1, 12), zz, zz, (3, 0, 9, 28, 15), zz, zz, (10, 0, 4, 0, 17)],
  [zz, (2, 0, 0, 0, 18), (10, 0, 5, 0, 20), zz, (0, 0, 5, 0, 22), zz, (0, 0, 0, 1, 23), (1, 0, 7, 1, 26), zz, zz, (12, 0, 86, 0, 29), zz, zz, (0, 0, 4, 0, 31), zz, (31, 0, 86, 0, 34)],
  [zz, zz, (0, 0, 5, 0, 36), zz, (0, 0, 1, 0, 37), (15, 0, 80, 0, 40), zz, zz, (0, 0, 2, 0, 41), (0, 0, 5, 0, 43), zz, (3, 0, 89, 2, 46), zz, zz, (2, 3, 0, 0, 47), (12, 0, 80, 0, 50)],
  [zz, zz, (0, 0, 0, 1, 51), (1, 0, 7, 0, 54), zz, zz, (0, 0, 1, 0, 55), (28, 0, 0, 0, 56), (0, 0, 2, 0, 57), (2, 1, 0, 0, 58), (2, 2, 0, 0, 59), (0, 0, 5, 0, 61), zz, (18, 0, 0, 0, 62), (23, 0, 0, 0, 63), (9, 0, 0, 0, 64)],
  [(0, 0, 3, 0, 65), (0, 0, 0, 1, 66), (1, 0, 7, 1, 69), zz, zz, (3, 0, 9, 28, 72), zz, zz, (0, 0, 4, 0, 74), zz, (12, 0, 80, 0, 77), zz, zz, (0, 0, 5, 0, 79), zz, (5, 0, 0, 0, 80)],
  [(13, 1, 5, 0, 83), zz, zz, (4, 0, 20, 0, 86), zz, zz, (2, -1, 0, 0, 87), (5, 0, 0, 0, 88)]]
/-- X7_agrees -/
def pg56 : List (List In) := [[(2, 0, 0, 0, 1), (10, 0, 3, 0, 2), (0, 0, 3, 0, 3), (0, 0, 0, 1, 4), (1, 0, 7, 1, 7), zz, zz, (12, 0, 50, 0, 10), zz, zz, (0, 0, 2, 0, 11), (0, 0, 3, 0, 12), (3, 0, 88, 2, 15), zz, zz, (11, 0, 44, 0, 18)],
  [zz, zz, (0, 0, 0, 1, 19), (1, 0, 7, 0, 22), zz, zz, (0, 0, 3, 0, 23), (28, 0, 0, 0, 24), (0, 0, 1, 0, 25), (2, 9, 0, 0, 27), zz, (0, 0, 0, 1, 28), (1, 0, 7, 1, 31), zz, zz, (3, 0, 9, 28, 34)],
  [zz, zz, (0, 0, 1, 0, 35), (0, 0, 3, 0, 36), (3, 0, 89, 2, 39), zz, zz, (15, 0, 44, 0, 42), zz, zz, (2, 0, 0, 0, 43), (54, 0, 0, 0, 44), (13, 1, 3, 0, 47), zz, zz, (4, 0, 2, 0, 50)],
  [zz, zz, (2, 1, 0, 0, 51), (54, 0, 0, 0, 52)]]
/-- X7_possibles -/
def pg57 : List (List In) := [[(2, 0, 0, 0, 1), (10, 0, 2, 0, 2), (2, 0, 0, 0, 3), (10, 0, 3, 0, 4), (0, 0, 3, 0, 5), (0, 0, 0, 1, 6), (3, 0, 51, 65, 9), zz, zz, (12, 0, 30, 0, 12), zz, zz, (0, 0, 0, 1, 13), (0, 0, 3, 0, 14), (0, 0, 1, 0, 15), (3, 0, 56, 67, 18)],
  [zz, zz, (6, 0, 24, 0, 21), zz, zz, (13, 1, 2, 0, 24), zz, zz, (13, 1, 3, 0, 27), zz, zz, (4, 0, 4, 0, 30), zz, zz, (0, 0, 2, 0, 31), (5, 0, 0, 0, 32)]]
/-- X7_possibleAt -/
def pg58 : List (List In) := [[(2, 0, 0, 0, 1), (10, 0, 3, 0, 2), (2, 0, 0, 0, 3), (10, 0, 4, 0, 5), zz, (0, 0, 4, 0, 7), zz, (0, 0, 0, 1, 8), (3, 0, 51, 65, 11), zz, zz, (12, 0, 46, 0, 14), zz, zz, (0, 0, 2, 0, 15), (0, 0, 3, 0, 16)],
  [(22, 0, 46, 0, 19), zz, zz, (0, 0, 0, 1, 20), (0, 0, 4, 0, 22), zz, (0, 0, 1, 0, 23), (3, 0, 56, 67, 26), zz, zz, (6, 0, 40, 0, 29), zz, zz, (0, 0, 3, 0, 30), (0, 0, 2, 0, 31), (14, 0, 37, 0, 34)],
  [zz, zz, (0, 0, 4, 0, 36), zz, (5, 0, 0, 0, 37), (13, 1, 3, 0, 40), zz, zz, (13, 1, 4, 0, 43), zz, zz, (4, 0, 5, 0, 46), zz, zz, (2, -1, 0, 0, 47), (5, 0, 0, 0, 48)]]
/-- X7_hangsOn -/
def pg59 : List (List In) := [[(0, 0, 0, 1, 1), (1, 0, 7, 0, 4), zz, zz, (0, 0, 1, 0, 5), (28, 0, 0, 0, 6), (0, 0, 3, 0, 7), (2, 9, 0, 0, 9), zz, (0, 0, 0, 1, 10), (1, 0, 7, 1, 13), zz, zz, (3, 0, 9, 28, 16), zz, zz],
  [(10, 0, 4, 0, 18), zz, (2, 0, 0, 0, 19), (10, 0, 5, 0, 21), zz, (0, 0, 5, 0, 23), zz, (2, 3, 0, 0, 24), (27, 0, 62, 0, 27), zz, zz, (0, 0, 0, 1, 28), (1, 0, 7, 0, 31), zz, zz, (0, 0, 1, 0, 32)],
  [(28, 0, 0, 0, 33), (0, 0, 3, 0, 34), (0, 0, 2, 0, 35), (0, 0, 5, 0, 37), zz, (3, 0, 90, 3, 40), zz, zz, (2, 9, 0, 0, 42), zz, (0, 0, 0, 1, 43), (1, 0, 7, 1, 46), zz, zz, (3, 0, 9, 28, 49), zz],
  [zz, (0, 0, 4, 0, 51), zz, (15, 0, 56, 0, 54), zz, zz, (2, 1, 0, 0, 55), (54, 0, 0, 0, 56), (13, 1, 5, 0, 59), zz, zz, (4, 0, 21, 0, 62), zz, zz, (2, 0, 0, 0, 63), (54, 0, 0, 0, 64)]]
/-- X7_softness -/
def pg60 : List (List In) := [[(2, 0, 0, 0, 1), (10, 0, 2, 0, 2), (2, 0, 0, 0, 3), (10, 0, 3, 0, 4), (0, 0, 3, 0, 5), (0, 0, 0, 1, 6), (1, 0, 7, 1, 9), zz, zz, (12, 0, 47, 0, 12), zz, zz, (0, 0, 0, 1, 13), (1, 0, 7, 0, 16), zz, zz],
  [(0, 0, 3, 0, 17), (28, 0, 0, 0, 18), (0, 0, 1, 0, 19), (0, 0, 0, 1, 20), (1, 0, 7, 1, 23), zz, zz, (3, 0, 10, 27, 26), zz, zz, (10, 0, 4, 0, 28), zz, (0, 0, 4, 0, 30), zz, (2, -1, 0, 0, 31), (14, 0, 36, 0, 34)],
  [zz, zz, (2, -1, 0, 0, 35), (5, 0, 0, 0, 36), (0, 0, 2, 0, 37), (0, 0, 4, 0, 39), zz, (9, 0, 0, 0, 40), (10, 0, 2, 0, 41), (13, 1, 3, 0, 44), zz, zz, (4, 0, 4, 0, 47), zz, zz, (0, 0, 2, 0, 48)],
  [(5, 0, 0, 0, 49)]]
/-- X7_nextDay -/
def pg61 : List (List In) := [[(0, 0, 1, 0, 1), (10, 0, 3, 0, 2), (2, 0, 0, 0, 3), (10, 0, 4, 0, 5), zz, (0, 0, 4, 0, 7), zz, (0, 0, 0, 1, 8), (1, 0, 7, 1, 11), zz, zz, (12, 0, 52, 0, 14), zz, zz, (0, 0, 3, 0, 15), (0, 0, 4, 0, 17)],
  [zz, (0, 0, 1, 0, 18), (0, 0, 4, 0, 20), zz, (3, 0, 89, 2, 23), zz, zz, (0, 0, 0, 1, 24), (1, 0, 7, 0, 27), zz, zz, (0, 0, 4, 0, 29), zz, (28, 0, 0, 0, 30), (0, 0, 1, 0, 31), (0, 0, 2, 0, 32)],
  [(0, 0, 0, 1, 33), (1, 0, 7, 1, 36), zz, zz, (3, 0, 8, 28, 39), zz, zz, (3, 0, 165, 2, 42), zz, zz, (3, 0, 90, 3, 45), zz, zz, (10, 0, 3, 0, 46), (13, 1, 4, 0, 49), zz],
  [zz, (4, 0, 5, 0, 52), zz, zz, (0, 0, 3, 0, 53), (5, 0, 0, 0, 54)]]
/-- X8_persons -/
def pg62 : List (List In) := [[(0, 0, 1, 0, 1), (2, 1, 0, 0, 2), (2, 6, 0, 0, 4), zz, (3, 0, 87, 3, 7), zz, zz, (11, 0, 14, 0, 10), zz, zz, (2, -1002, 0, 0, 13), zz, zz, (5, 0, 0, 0, 14), (0, 0, 0, 1, 15), (1, 0, 8, 2, 18)],
  [zz, zz, (0, 0, 1, 0, 19), (3, 0, 47, 66, 22), zz, zz, (0, 0, 1, 0, 23), (5, 0, 0, 0, 24)]]
/-- X8_feed -/
def pg63 : List (List In) := [[(0, 0, 1, 0, 1), (2, 1, 0, 0, 2), (2, 8, 0, 0, 4), zz, (3, 0, 87, 3, 7), zz, zz, (11, 0, 14, 0, 10), zz, zz, (2, -1002, 0, 0, 13), zz, zz, (5, 0, 0, 0, 14), (0, 0, 0, 1, 15), (1, 0, 8, 0, 18)],
  [zz, zz, (0, 0, 1, 0, 19), (3, 0, 45, 58, 22), zz, zz, (11, 0, 29, 0, 25), zz, zz, (2, -1004, 0, 0, 28), zz, zz, (5, 0, 0, 0, 29), (0, 0, 0, 1, 30), (1, 0, 8, 0, 33), zz],
  [zz, (0, 0, 1, 0, 34), (0, 0, 2, 2, 35), (3, 0, 46, 59, 38), zz, zz, (0, 0, 0, 1, 39), (1, 0, 8, 0, 42), zz, zz, (1, 0, 6, 1, 45), zz, zz, (5, 0, 0, 0, 46)]]
/-- X8_term -/
def pg64 : List (List In) := [[(0, 0, 0, 1, 1), (1, 0, 8, 2, 4), zz, zz, (0, 0, 1, 0, 5), (3, 0, 48, 66, 8), zz, zz, (11, 0, 15, 0, 11), zz, zz, (2, -1001, 0, 0, 14), zz, zz, (5, 0, 0, 0, 15), (0, 0, 0, 1, 16)],
  [(1, 0, 8, 1, 19), zz, zz, (3, 0, 11, 33, 22), zz, zz, (10, 0, 2, 0, 23), (0, 0, 0, 1, 24), (1, 0, 8, 0, 27), zz, zz, (2, 0, 0, 0, 28), (8, 0, 6, 1, 31), zz, zz, (0, 0, 2, 0, 32)],
  [(11, 0, 46, 0, 35), zz, zz, (2, -10, 0, 0, 37), zz, (0, 0, 0, 1, 38), (1, 0, 8, 1, 41), zz, zz, (1, 0, 3, 12, 44), zz, zz, (17, 0, 0, 0, 45), (5, 0, 0, 0, 46), (0, 0, 0, 1, 47), (1, 0, 8, 1, 50)],
  [zz, zz, (0, 0, 0, 1, 51), (1, 0, 8, 2, 54), zz, zz, (1, 0, 7, 0, 57), zz, zz, (0, 0, 1, 0, 58), (28, 0, 0, 0, 59), (0, 0, 0, 1, 60), (1, 0, 8, 1, 63), zz, zz, (1, 0, 3, 11, 66)],
  [zz, zz, (3, 0, 7, 26, 69), zz, zz, (8, 0, 3, 11, 72), zz, zz, (0, 0, 0, 1, 73), (1, 0, 8, 2, 76), zz, zz, (1, 0, 7, 0, 79), zz, zz, (0, 0, 1, 0, 80)],
  [(28, 0, 0, 0, 81), (1, 0, 2, 2, 84), zz, zz, (1, 0, 5, 3, 87), zz, zz, (5, 0, 0, 0, 88)]]
/-- X8_fault -/
def pg65 : List (List In) := [[(0, 0, 0, 1, 1), (1, 0, 8, 1, 4), zz, zz, (1, 0, 3, 13, 7), zz, zz, (5, 0, 0, 0, 8)]]
/-- X8_lets -/
def pg66 : List (List In) := [[(0, 0, 0, 1, 1), (1, 0, 8, 2, 4), zz, zz, (0, 0, 1, 0, 5), (3, 0, 48, 66, 8), zz, zz, (11, 0, 15, 0, 11), zz, zz, (2, -1001, 0, 0, 14), zz, zz, (5, 0, 0, 0, 15), (0, 0, 0, 1, 16)],
  [(1, 0, 8, 2, 19), zz, zz, (0, 0, 2, 0, 20), (3, 0, 50, 66, 23), zz, zz, (6, 0, 36, 0, 26), zz, zz, (0, 0, 3, 0, 27), (2, 1, 0, 0, 28), (2, 9, 0, 0, 30), zz, (3, 0, 87, 3, 33), zz],
  [zz, (11, 0, 40, 0, 36), zz, zz, (2, -1002, 0, 0, 39), zz, zz, (5, 0, 0, 0, 40), (0, 0, 0, 1, 41), (1, 0, 8, 2, 44), zz, zz, (1, 0, 7, 0, 47), zz, zz, (0, 0, 1, 0, 48)],
  [(28, 0, 0, 0, 49), (0, 0, 2, 0, 50), (0, 0, 3, 0, 51), (0, 0, 0, 1, 52), (1, 0, 8, 2, 55), zz, zz, (1, 0, 7, 1, 58), zz, zz, (3, 0, 8, 28, 61), zz, zz, (5, 0, 0, 0, 62)]]
/-- X8_count -/
def pg67 : List (List In) := [[(0, 0, 1, 0, 1), (37, 0, 2, 66, 32), zz, zz, zz, zz, zz, zz, zz, zz, zz, zz, zz, zz, zz, zz],
  [zz, zz, zz, zz, zz, zz, zz, zz, zz, zz, zz, zz, zz, zz, zz, zz],
  [(0, 0, 0, 1, 33), (1, 0, 8, 2, 36), zz, zz, (1, 0, 7, 1, 39), zz, zz, (5, 0, 0, 0, 40), (0, 0, 0, 1, 41), (1, 0, 8, 0, 44), zz, zz, (1, 0, 6, 1, 47), zz, zz, (5, 0, 0, 0, 48)],
  [(0, 0, 0, 1, 49), (1, 0, 8, 2, 52), zz, zz, (3, 0, 52, 65, 55), zz, zz, (5, 0, 0, 0, 56), (0, 0, 0, 1, 57), (1, 0, 8, 2, 60), zz, zz, (2, 9, 0, 0, 62), zz, (3, 0, 53, 66, 65), zz],
  [zz, (5, 0, 0, 0, 66), (2, -1002, 0, 0, 69), zz, zz, (5, 0, 0, 0, 70)]]
/-- X8_grows -/
def pg68 : List (List In) := [[(0, 0, 0, 1, 1), (1, 0, 8, 2, 4), zz, zz, (0, 0, 1, 0, 5), (3, 0, 48, 66, 8), zz, zz, (11, 0, 15, 0, 11), zz, zz, (2, -1001, 0, 0, 14), zz, zz, (5, 0, 0, 0, 15), (0, 0, 2, 0, 16)],
  [(2, 1, 0, 0, 17), (2, 9, 0, 0, 19), zz, (3, 0, 87, 3, 22), zz, zz, (6, 0, 34, 0, 25), zz, zz, (0, 0, 3, 0, 26), (2, -1, 0, 0, 27), (2, 1, 0, 0, 28), (3, 0, 87, 3, 31), zz, zz, (11, 0, 38, 0, 34)],
  [zz, zz, (2, -1002, 0, 0, 37), zz, zz, (5, 0, 0, 0, 38), (0, 0, 0, 1, 39), (1, 0, 8, 2, 42), zz, zz, (0, 0, 1, 0, 43), (0, 0, 2, 0, 44), (3, 0, 54, 67, 47), zz, zz, (10, 0, 4, 0, 49)],
  [zz, (0, 0, 3, 0, 50), (2, -1, 0, 0, 51), (14, 0, 66, 0, 54), zz, zz, (0, 0, 4, 0, 56), zz, (2, -1, 0, 0, 57), (14, 0, 64, 0, 60), zz, zz, (2, 1, 0, 0, 61), (4, 0, 65, 0, 64), zz, zz],
  [(2, 0, 0, 0, 65), (5, 0, 0, 0, 66), (0, 0, 4, 0, 68), zz, (2, -1, 0, 0, 69), (15, 0, 76, 0, 72), zz, zz, (0, 0, 3, 0, 73), (11, 0, 79, 0, 76), zz, zz, (0, 0, 4, 0, 78), zz, (5, 0, 0, 0, 79), (0, 0, 0, 1, 80)],
  [(1, 0, 8, 2, 83), zz, zz, (0, 0, 1, 0, 84), (0, 0, 4, 0, 86), zz, (0, 0, 2, 0, 87), (3, 0, 55, 68, 90), zz, zz, (5, 0, 0, 0, 91)]]
/-- X8_judge -/
def pg69 : List (List In) := [[(0, 0, 0, 1, 1), (1, 0, 8, 2, 4), zz, zz, (0, 0, 1, 0, 5), (3, 0, 50, 66, 8), zz, zz, (6, 0, 21, 0, 11), zz, zz, (0, 0, 2, 0, 12), (2, 1, 0, 0, 13), (2, 9, 0, 0, 15), zz, (3, 0, 87, 3, 18)],
  [zz, zz, (11, 0, 25, 0, 21), zz, zz, (2, -1002, 0, 0, 24), zz, zz, (5, 0, 0, 0, 25), (2, 0, 0, 0, 26), (10, 0, 3, 0, 27), (0, 0, 3, 0, 28), (0, 0, 0, 1, 29), (1, 0, 8, 2, 32), zz, zz],
  [(1, 0, 7, 1, 35), zz, zz, (12, 0, 75, 0, 38), zz, zz, (0, 0, 0, 1, 39), (1, 0, 8, 2, 42), zz, zz, (1, 0, 7, 0, 45), zz, zz, (0, 0, 3, 0, 46), (28, 0, 0, 0, 47), (0, 0, 1, 0, 48)],
  [(0, 0, 2, 0, 49), (0, 0, 0, 1, 50), (1, 0, 8, 2, 53), zz, zz, (1, 0, 7, 1, 56), zz, zz, (3, 0, 8, 28, 59), zz, zz, (0, 0, 1, 0, 60), (0, 0, 3, 0, 61), (3, 0, 89, 2, 64), zz, zz],
  [(15, 0, 69, 0, 67), zz, zz, (0, 0, 3, 0, 68), (5, 0, 0, 0, 69), (13, 1, 3, 0, 72), zz, zz, (4, 0, 27, 0, 75), zz, zz, (2, -1, 0, 0, 76), (5, 0, 0, 0, 77)]]
/-- X8_settled -/
def pg70 : List (List In) := [[(0, 0, 1, 0, 1), (2, -1, 0, 0, 2), (14, 0, 16, 0, 5), zz, zz, (0, 0, 0, 1, 6), (1, 0, 8, 2, 9), zz, zz, (2, 0, 0, 0, 10), (3, 0, 57, 66, 13), zz, zz, (4, 0, 25, 0, 16), zz, zz],
  [(0, 0, 0, 1, 17), (1, 0, 8, 2, 20), zz, zz, (2, 0, 0, 0, 21), (0, 0, 1, 0, 22), (3, 0, 58, 67, 25), zz, zz, (5, 0, 0, 0, 26)]]
/-- X8_end -/
def pg71 : List (List In) := [[(0, 0, 1, 0, 1), (2, 0, 0, 0, 2), (2, 1, 0, 0, 3), (3, 0, 87, 3, 6), zz, zz, (11, 0, 13, 0, 9), zz, zz, (2, -1002, 0, 0, 12), zz, zz, (5, 0, 0, 0, 13), (2, -1, 0, 0, 14), (10, 0, 2, 0, 15), (2, 0, 0, 0, 16)],
  [(10, 0, 3, 0, 17), (0, 0, 3, 0, 18), (0, 0, 0, 1, 19), (1, 0, 8, 2, 22), zz, zz, (3, 0, 51, 65, 25), zz, zz, (12, 0, 68, 0, 28), zz, zz, (0, 0, 0, 1, 29), (1, 0, 8, 2, 32), zz, zz],
  [(0, 0, 3, 0, 33), (2, 0, 0, 0, 34), (3, 0, 56, 67, 37), zz, zz, (6, 0, 62, 0, 40), zz, zz, (0, 0, 2, 0, 41), (2, -1, 0, 0, 42), (15, 0, 60, 0, 45), zz, zz, (0, 0, 1, 0, 46), (0, 0, 3, 0, 47), (3, 0, 91, 1, 50)],
  [zz, zz, (0, 0, 2, 0, 51), (3, 0, 91, 1, 54), zz, zz, (3, 0, 86, 3, 57), zz, zz, (6, 0, 62, 0, 60), zz, zz, (0, 0, 3, 0, 61), (10, 0, 2, 0, 62), (13, 1, 3, 0, 65), zz],
  [zz, (4, 0, 17, 0, 68), zz, zz, (0, 0, 2, 0, 69), (5, 0, 0, 0, 70)]]
/-- X8_climb -/
def pg72 : List (List In) := [[(0, 0, 0, 1, 1), (1, 0, 8, 2, 4), zz, zz, (0, 0, 1, 0, 5), (3, 0, 50, 66, 8), zz, zz, (6, 0, 29, 0, 11), zz, zz, (0, 0, 2, 0, 12), (2, 0, 0, 0, 13), (2, 1, 0, 0, 14), (3, 0, 87, 3, 17), zz],
  [zz, (6, 0, 29, 0, 20), zz, zz, (0, 0, 3, 0, 21), (2, 0, 0, 0, 22), (2, 2, 0, 0, 23), (3, 0, 87, 3, 26), zz, zz, (11, 0, 33, 0, 29), zz, zz, (2, -1002, 0, 0, 32), zz, zz],
  [(5, 0, 0, 0, 33), (0, 0, 0, 1, 34), (1, 0, 8, 3, 37), zz, zz, (0, 0, 1, 0, 38), (0, 0, 2, 0, 39), (2, -1, 0, 0, 40), (2, 0, 0, 0, 41), (3, 0, 4, 21, 44), zz, zz, (0, 0, 3, 0, 45), (11, 0, 56, 0, 48), zz, zz],
  [(0, 0, 0, 1, 49), (1, 0, 8, 3, 52), zz, zz, (1, 0, 1, 1, 55), zz, zz, (5, 0, 0, 0, 56), (0, 0, 3, 0, 57), (2, 1, 0, 0, 58), (14, 0, 71, 0, 61), zz, zz, (0, 0, 0, 1, 62), (1, 0, 8, 3, 65), zz],
  [zz, (1, 0, 1, 2, 68), zz, zz, (4, 0, 78, 0, 71), zz, zz, (0, 0, 0, 1, 72), (1, 0, 8, 3, 75), zz, zz, (1, 0, 1, 3, 78), zz, zz, (5, 0, 0, 0, 79)]]
/-- X8_hangs -/
def pg73 : List (List In) := [[(0, 0, 0, 1, 1), (1, 0, 8, 2, 4), zz, zz, (0, 0, 1, 0, 5), (3, 0, 48, 66, 8), zz, zz, (11, 0, 15, 0, 11), zz, zz, (2, -1001, 0, 0, 14), zz, zz, (5, 0, 0, 0, 15), (0, 0, 0, 1, 16)],
  [(1, 0, 8, 2, 19), zz, zz, (0, 0, 2, 0, 20), (3, 0, 50, 66, 23), zz, zz, (11, 0, 30, 0, 26), zz, zz, (2, -1002, 0, 0, 29), zz, zz, (5, 0, 0, 0, 30), (2, 0, 0, 0, 31), (10, 0, 3, 0, 32)],
  [(2, 0, 0, 0, 33), (10, 0, 4, 0, 35), zz, (0, 0, 4, 0, 37), zz, (0, 0, 0, 1, 38), (1, 0, 8, 2, 41), zz, zz, (1, 0, 7, 1, 44), zz, zz, (12, 0, 74, 0, 47), zz, zz, (0, 0, 0, 1, 48)],
  [(1, 0, 8, 2, 51), zz, zz, (0, 0, 1, 0, 52), (0, 0, 4, 0, 54), zz, (0, 0, 2, 0, 55), (3, 0, 59, 68, 58), zz, zz, (6, 0, 68, 0, 61), zz, zz, (0, 0, 3, 0, 62), (2, 1, 0, 0, 63), (0, 0, 4, 0, 65)],
  [zz, (23, 0, 0, 0, 66), (33, 0, 0, 0, 67), (10, 0, 3, 0, 68), (13, 1, 4, 0, 71), zz, zz, (4, 0, 35, 0, 74), zz, zz, (0, 0, 3, 0, 75), (5, 0, 0, 0, 76)]]
/-- X8_leaving -/
def pg74 : List (List In) := [[(0, 0, 0, 1, 1), (1, 0, 8, 2, 4), zz, zz, (0, 0, 1, 0, 5), (3, 0, 48, 66, 8), zz, zz, (11, 0, 15, 0, 11), zz, zz, (2, -1001, 0, 0, 14), zz, zz, (5, 0, 0, 0, 15), (0, 0, 0, 1, 16)],
  [(1, 0, 8, 2, 19), zz, zz, (0, 0, 2, 0, 20), (3, 0, 50, 66, 23), zz, zz, (11, 0, 30, 0, 26), zz, zz, (2, -1002, 0, 0, 29), zz, zz, (5, 0, 0, 0, 30), (0, 0, 0, 1, 31), (1, 0, 8, 3, 34)],
  [zz, zz, (0, 0, 2, 0, 35), (2, 0, 0, 0, 36), (0, 0, 1, 0, 37), (2, 0, 0, 0, 38), (3, 0, 4, 21, 41), zz, zz, (0, 0, 0, 1, 42), (1, 0, 8, 3, 45), zz, zz, (1, 0, 1, 1, 48), zz, zz],
  [(2, -1, 0, 0, 49), (14, 0, 54, 0, 52), zz, zz, (2, -1, 0, 0, 53), (5, 0, 0, 0, 54), (2, 100, 0, 0, 56), zz, (0, 0, 2, 0, 57), (3, 0, 91, 1, 60), zz, zz, (9, 0, 0, 0, 61), (0, 0, 0, 1, 62), (1, 0, 8, 3, 65), zz],
  [zz, (1, 0, 1, 1, 68), zz, zz, (3, 0, 91, 1, 71), zz, zz, (17, 0, 0, 0, 72), (5, 0, 0, 0, 73)]]
/-- X8_soft -/
def pg75 : List (List In) := [[(0, 0, 1, 0, 1), (2, -1, 0, 0, 2), (15, 0, 20, 0, 5), zz, zz, (0, 0, 0, 1, 6), (1, 0, 8, 2, 9), zz, zz, (0, 0, 1, 0, 10), (3, 0, 48, 66, 13), zz, zz, (11, 0, 20, 0, 16), zz, zz],
  [(2, -1001, 0, 0, 19), zz, zz, (5, 0, 0, 0, 20), (0, 0, 0, 1, 21), (1, 0, 8, 2, 24), zz, zz, (0, 0, 2, 0, 25), (3, 0, 50, 66, 28), zz, zz, (11, 0, 35, 0, 31), zz, zz, (2, -1002, 0, 0, 34)],
  [zz, zz, (5, 0, 0, 0, 35), (0, 0, 1, 0, 36), (2, -1, 0, 0, 37), (14, 0, 51, 0, 40), zz, zz, (0, 0, 0, 1, 41), (1, 0, 8, 2, 44), zz, zz, (0, 0, 2, 0, 45), (3, 0, 60, 66, 48), zz, zz],
  [(4, 0, 71, 0, 51), zz, zz, (0, 0, 0, 1, 52), (1, 0, 8, 2, 55), zz, zz, (1, 0, 7, 0, 58), zz, zz, (0, 0, 1, 0, 59), (28, 0, 0, 0, 60), (0, 0, 2, 0, 61), (0, 0, 0, 1, 62), (1, 0, 8, 2, 65), zz],
  [zz, (1, 0, 7, 1, 68), zz, zz, (3, 0, 10, 27, 71), zz, zz, (5, 0, 0, 0, 72)]]
/-- X8_byDay -/
def pg76 : List (List In) := [[(0, 0, 1, 0, 1), (2, 0, 0, 0, 2), (2, 9, 0, 0, 4), zz, (3, 0, 87, 3, 7), zz, zz, (11, 0, 14, 0, 10), zz, zz, (2, -1002, 0, 0, 13), zz, zz, (5, 0, 0, 0, 14), (2, 0, 0, 0, 15), (10, 0, 2, 0, 16)],
  [(2, 1, 0, 0, 17), (10, 0, 3, 0, 18), (0, 0, 3, 0, 19), (0, 0, 1, 0, 20), (27, 0, 39, 0, 23), zz, zz, (0, 0, 0, 1, 24), (1, 0, 8, 2, 27), zz, zz, (0, 0, 2, 0, 28), (0, 0, 3, 0, 29), (3, 0, 61, 67, 32), zz, zz],
  [(10, 0, 2, 0, 33), (13, 1, 3, 0, 36), zz, zz, (4, 0, 18, 0, 39), zz, zz, (0, 0, 2, 0, 40), (5, 0, 0, 0, 41)]]
/-- X8_dares -/
def pg77 : List (List In) := [[(0, 0, 0, 1, 1), (1, 0, 8, 2, 4), zz, zz, (0, 0, 1, 0, 5), (3, 0, 48, 66, 8), zz, zz, (11, 0, 15, 0, 11), zz, zz, (2, -1001, 0, 0, 14), zz, zz, (5, 0, 0, 0, 15), (2, 0, 0, 0, 16)],
  [(10, 0, 2, 0, 17), (2, 1, 0, 0, 18), (10, 0, 3, 0, 19), (0, 0, 3, 0, 20), (2, 9, 0, 0, 22), zz, (27, 0, 51, 0, 25), zz, zz, (0, 0, 0, 1, 26), (1, 0, 8, 2, 29), zz, zz, (0, 0, 2, 0, 30), (0, 0, 3, 0, 31), (3, 0, 61, 67, 34)],
  [zz, zz, (10, 0, 2, 0, 35), (0, 0, 2, 0, 36), (0, 0, 1, 0, 37), (3, 0, 89, 2, 40), zz, zz, (31, 0, 45, 0, 43), zz, zz, (0, 0, 3, 0, 44), (5, 0, 0, 0, 45), (13, 1, 3, 0, 48), zz, zz],
  [(4, 0, 19, 0, 51), zz, zz, (2, -1, 0, 0, 52), (5, 0, 0, 0, 53)]]
/-- X8_offer -/
def pg78 : List (List In) := [[(0, 0, 0, 1, 1), (1, 0, 8, 2, 4), zz, zz, (0, 0, 1, 0, 5), (3, 0, 48, 66, 8), zz, zz, (11, 0, 15, 0, 11), zz, zz, (2, -1001, 0, 0, 14), zz, zz, (5, 0, 0, 0, 15), (0, 0, 2, 0, 16)],
  [(2, 0, 0, 0, 17), (2, 1, 0, 0, 18), (3, 0, 87, 3, 21), zz, zz, (6, 0, 34, 0, 24), zz, zz, (0, 0, 3, 0, 25), (2, 0, 0, 0, 26), (2, 99, 0, 0, 28), zz, (3, 0, 87, 3, 31), zz, zz, (11, 0, 38, 0, 34)],
  [zz, zz, (2, -1002, 0, 0, 37), zz, zz, (5, 0, 0, 0, 38), (0, 0, 0, 1, 39), (1, 0, 8, 2, 42), zz, zz, (1, 0, 7, 0, 45), zz, zz, (0, 0, 1, 0, 46), (28, 0, 0, 0, 47), (10, 0, 4, 1, 49)],
  [zz, (0, 0, 2, 0, 50), (11, 0, 61, 0, 53), zz, zz, (0, 0, 4, 1, 55), zz, (1, 0, 2, 3, 58), zz, zz, (4, 0, 66, 0, 61), zz, zz, (0, 0, 4, 1, 63), zz, (1, 0, 2, 4, 66)],
  [zz, zz, (10, 0, 5, 0, 68), zz, (0, 0, 2, 0, 69), (11, 0, 81, 0, 72), zz, zz, (0, 0, 4, 1, 74), zz, (0, 0, 3, 0, 75), (8, 0, 2, 3, 78), zz, zz, (4, 0, 87, 0, 81), zz],
  [zz, (0, 0, 4, 1, 83), zz, (0, 0, 3, 0, 84), (8, 0, 2, 4, 87), zz, zz, (0, 0, 5, 0, 89), zz, (5, 0, 0, 0, 90)]]
/-- X8_rests -/
def pg79 : List (List In) := [[(0, 0, 0, 1, 1), (1, 0, 8, 2, 4), zz, zz, (0, 0, 1, 0, 5), (3, 0, 49, 66, 8), zz, zz, (11, 0, 15, 0, 11), zz, zz, (2, -1001, 0, 0, 14), zz, zz, (5, 0, 0, 0, 15), (0, 0, 2, 0, 16)],
  [(2, 1, 0, 0, 17), (2, 500, 0, 0, 20), zz, zz, (3, 0, 87, 3, 23), zz, zz, (6, 0, 36, 0, 26), zz, zz, (0, 0, 3, 0, 27), (2, 0, 0, 0, 28), (2, 99, 0, 0, 30), zz, (3, 0, 87, 3, 33), zz],
  [zz, (11, 0, 40, 0, 36), zz, zz, (2, -1002, 0, 0, 39), zz, zz, (5, 0, 0, 0, 40), (0, 0, 0, 1, 41), (1, 0, 8, 4, 44), zz, zz, (0, 0, 1, 0, 45), (0, 0, 2, 0, 46), (0, 0, 3, 0, 47), (3, 0, 0, 12, 50)],
  [zz, zz, (6, 0, 57, 0, 53), zz, zz, (2, 1, 0, 0, 54), (4, 0, 58, 0, 57), zz, zz, (2, 0, 0, 0, 58), (5, 0, 0, 0, 59)]]
/-- X8_leastTop -/
def pg80 : List (List In) := [[(0, 0, 1, 0, 1), (2, 1, 0, 0, 2), (2, 500, 0, 0, 5), zz, zz, (3, 0, 87, 3, 8), zz, zz, (11, 0, 15, 0, 11), zz, zz, (2, -1002, 0, 0, 14), zz, zz, (5, 0, 0, 0, 15), (2, 0, 0, 0, 16)],
  [(10, 0, 2, 0, 17), (0, 0, 2, 0, 18), (2, 99, 0, 0, 20), zz, (27, 0, 43, 0, 23), zz, zz, (0, 0, 0, 1, 24), (1, 0, 8, 4, 27), zz, zz, (0, 0, 1, 0, 28), (0, 0, 2, 0, 29), (3, 0, 1, 11, 32), zz, zz],
  [(6, 0, 37, 0, 35), zz, zz, (0, 0, 2, 0, 36), (5, 0, 0, 0, 37), (13, 1, 2, 0, 40), zz, zz, (4, 0, 17, 0, 43), zz, zz, (2, -1, 0, 0, 44), (5, 0, 0, 0, 45)]]
/-- X8_sly -/
def pg81 : List (List In) := [[(0, 0, 0, 1, 1), (1, 0, 8, 2, 4), zz, zz, (0, 0, 1, 0, 5), (3, 0, 48, 66, 8), zz, zz, (11, 0, 15, 0, 11), zz, zz, (2, -1001, 0, 0, 14), zz, zz, (5, 0, 0, 0, 15), (0, 0, 2, 0, 16)],
  [(2, 0, 0, 0, 17), (2, 18, 0, 0, 19), zz, (3, 0, 87, 3, 22), zz, zz, (6, 0, 34, 0, 25), zz, zz, (0, 0, 3, 0, 26), (2, 0, 0, 0, 27), (2, 1, 0, 0, 28), (3, 0, 87, 3, 31), zz, zz, (11, 0, 38, 0, 34)],
  [zz, zz, (2, -1002, 0, 0, 37), zz, zz, (5, 0, 0, 0, 38), (2, 4, 0, 0, 39), (10, 0, 4, 0, 41), zz, (0, 0, 0, 1, 42), (0, 0, 1, 0, 43), (2, 4, 0, 0, 44), (0, 0, 2, 0, 45), (3, 0, 85, 76, 48), zz, zz],
  [(10, 0, 5, 0, 50), zz, (2, 0, 0, 0, 51), (10, 0, 6, 0, 53), zz, (0, 0, 6, 0, 55), zz, (2, 3, 0, 0, 56), (27, 0, 90, 0, 59), zz, zz, (0, 0, 0, 1, 60), (0, 0, 1, 0, 61), (0, 0, 6, 0, 63), zz, (0, 0, 2, 0, 64)],
  [(3, 0, 85, 76, 67), zz, zz, (10, 0, 7, 0, 69), zz, (0, 0, 7, 0, 71), zz, (0, 0, 5, 0, 73), zz, (29, 0, 84, 0, 76), zz, zz, (0, 0, 7, 0, 78), zz, (10, 0, 5, 0, 80), zz],
  [(0, 0, 6, 0, 82), zz, (10, 0, 4, 0, 84), zz, (13, 1, 6, 0, 87), zz, zz, (4, 0, 53, 0, 90), zz, zz, (0, 0, 3, 0, 91), (11, 0, 99, 0, 94), zz, zz, (0, 0, 4, 0, 96), zz],
  [(4, 0, 105, 0, 99), zz, zz, (2, 1000, 0, 0, 102), zz, zz, (0, 0, 5, 0, 104), zz, (9, 0, 0, 0, 105), (5, 0, 0, 0, 106)]]
/-- X8_possible -/
def pg82 : List (List In) := [[(0, 0, 0, 1, 1), (1, 0, 8, 2, 4), zz, zz, (0, 0, 1, 0, 5), (3, 0, 49, 66, 8), zz, zz, (11, 0, 15, 0, 11), zz, zz, (2, -1001, 0, 0, 14), zz, zz, (5, 0, 0, 0, 15), (0, 0, 2, 0, 16)],
  [(2, -1, 0, 0, 17), (14, 0, 31, 0, 20), zz, zz, (0, 0, 0, 1, 21), (1, 0, 8, 2, 24), zz, zz, (0, 0, 1, 0, 25), (3, 0, 57, 66, 28), zz, zz, (4, 0, 40, 0, 31), zz, zz, (0, 0, 0, 1, 32)],
  [(1, 0, 8, 2, 35), zz, zz, (0, 0, 1, 0, 36), (0, 0, 2, 0, 37), (3, 0, 58, 67, 40), zz, zz, (5, 0, 0, 0, 41)]]
/-- X8_sure -/
def pg83 : List (List In) := [[(0, 0, 0, 1, 1), (1, 0, 8, 2, 4), zz, zz, (0, 0, 1, 0, 5), (3, 0, 49, 66, 8), zz, zz, (6, 0, 22, 0, 11), zz, zz, (0, 0, 0, 1, 12), (1, 0, 8, 2, 15), zz, zz, (0, 0, 2, 0, 16)],
  [(3, 0, 48, 66, 19), zz, zz, (11, 0, 26, 0, 22), zz, zz, (2, -1001, 0, 0, 25), zz, zz, (5, 0, 0, 0, 26), (2, -1, 0, 0, 27), (10, 0, 3, 0, 28), (2, 0, 0, 0, 29), (10, 0, 4, 0, 31), zz, (0, 0, 4, 0, 33)],
  [zz, (0, 0, 0, 1, 34), (1, 0, 8, 2, 37), zz, zz, (3, 0, 51, 65, 40), zz, zz, (12, 0, 86, 0, 43), zz, zz, (0, 0, 0, 1, 44), (1, 0, 8, 2, 47), zz, zz, (0, 0, 4, 0, 49)],
  [zz, (0, 0, 1, 0, 50), (3, 0, 56, 67, 53), zz, zz, (6, 0, 80, 0, 56), zz, zz, (0, 0, 3, 0, 57), (2, -1, 0, 0, 58), (15, 0, 73, 0, 61), zz, zz, (0, 0, 3, 0, 62), (0, 0, 4, 0, 64), zz],
  [(0, 0, 2, 0, 65), (3, 0, 89, 2, 68), zz, zz, (15, 0, 73, 0, 71), zz, zz, (2, -1, 0, 0, 72), (5, 0, 0, 0, 73), (0, 0, 4, 0, 75), zz, (0, 0, 2, 0, 76), (3, 0, 89, 2, 79), zz, zz, (10, 0, 3, 0, 80)],
  [(13, 1, 4, 0, 83), zz, zz, (4, 0, 31, 0, 86), zz, zz, (0, 0, 3, 0, 87), (5, 0, 0, 0, 88)]]
/-- X8_telling -/
def pg84 : List (List In) := [[(0, 0, 0, 1, 1), (1, 0, 8, 2, 4), zz, zz, (0, 0, 1, 0, 5), (3, 0, 49, 66, 8), zz, zz, (6, 0, 22, 0, 11), zz, zz, (0, 0, 0, 1, 12), (1, 0, 8, 2, 15), zz, zz, (0, 0, 2, 0, 16)],
  [(3, 0, 48, 66, 19), zz, zz, (11, 0, 26, 0, 22), zz, zz, (2, -1001, 0, 0, 25), zz, zz, (5, 0, 0, 0, 26), (0, 0, 1, 0, 27), (0, 0, 2, 0, 28), (3, 0, 88, 2, 31), zz, zz, (11, 0, 38, 0, 34)],
  [zz, zz, (2, -1003, 0, 0, 37), zz, zz, (5, 0, 0, 0, 38), (0, 0, 0, 1, 39), (1, 0, 8, 2, 42), zz, zz, (0, 0, 1, 0, 43), (3, 0, 57, 66, 46), zz, zz, (0, 0, 0, 1, 47), (1, 0, 8, 2, 50)],
  [zz, zz, (0, 0, 1, 0, 51), (2, 1, 0, 0, 52), (0, 0, 2, 0, 53), (23, 0, 0, 0, 54), (38, 0, 0, 0, 55), (3, 0, 57, 66, 58), zz, zz, (17, 0, 0, 0, 59), (5, 0, 0, 0, 60)]]
/-- X8_gain -/
def pg85 : List (List In) := [[(0, 0, 0, 1, 1), (1, 0, 8, 3, 4), zz, zz, (0, 0, 0, 1, 5), (1, 0, 8, 2, 8), zz, zz, (3, 0, 51, 65, 11), zz, zz, (2, 1, 0, 0, 12), (17, 0, 0, 0, 13), (2, 0, 0, 0, 14), (0, 0, 2, 0, 15), (2, 4, 0, 0, 16)],
  [(14, 0, 23, 0, 19), zz, zz, (2, -1, 0, 0, 20), (4, 0, 24, 0, 23), zz, zz, (0, 0, 1, 0, 24), (0, 0, 2, 0, 25), (3, 0, 4, 21, 28), zz, zz, (0, 0, 0, 1, 29), (1, 0, 8, 3, 32), zz, zz],
  [(1, 0, 1, 1, 35), zz, zz, (2, -1, 0, 0, 36), (14, 0, 41, 0, 39), zz, zz, (2, 0, 0, 0, 40), (5, 0, 0, 0, 41), (0, 0, 0, 1, 42), (1, 0, 8, 3, 45), zz, zz, (1, 0, 1, 1, 48), zz, zz],
  [(3, 0, 91, 1, 51), zz, zz, (0, 0, 3, 0, 52), (22, 0, 70, 0, 55), zz, zz, (0, 0, 0, 1, 56), (1, 0, 8, 2, 59), zz, zz, (1, 0, 7, 0, 62), zz, zz, (0, 0, 1, 0, 63), (28, 0, 0, 0, 64)],
  [(1, 0, 2, 4, 67), zz, zz, (4, 0, 71, 0, 70), zz, zz, (2, 0, 0, 0, 71), (10, 0, 4, 0, 73), zz, (0, 0, 4, 0, 75), zz, (2, 10, 0, 0, 77), zz, (0, 0, 0, 1, 78), (1, 0, 8, 3, 81), zz],
  [zz, (1, 0, 1, 1, 84), zz, zz, (0, 0, 1, 0, 85), (3, 0, 89, 2, 88), zz, zz, (18, 0, 0, 0, 89), (17, 0, 0, 0, 90), (5, 0, 0, 0, 91)]]
/-- X8_isFurther -/
def pg86 : List (List In) := [[(0, 0, 0, 0, 1), (11, 0, 17, 0, 4), zz, zz, (0, 0, 1, 0, 5), (0, 0, 2, 0, 6), (29, 0, 13, 0, 9), zz, zz, (2, 1, 0, 0, 10), (4, 0, 27, 0, 13), zz, zz, (2, 0, 0, 0, 14), (4, 0, 27, 0, 17), zz],
  [zz, (0, 0, 1, 0, 18), (0, 0, 2, 0, 19), (12, 0, 26, 0, 22), zz, zz, (2, 1, 0, 0, 23), (4, 0, 27, 0, 26), zz, zz, (2, 0, 0, 0, 27), (54, 0, 0, 0, 28)]]
/-- X8_within -/
def pg87 : List (List In) := [[(0, 0, 0, 0, 1), (0, 0, 1, 0, 2), (22, 0, 14, 0, 5), zz, zz, (0, 0, 0, 0, 6), (0, 0, 2, 0, 7), (27, 0, 14, 0, 10), zz, zz, (2, 1, 0, 0, 11), (4, 0, 15, 0, 14), zz, zz, (2, 0, 0, 0, 15), (54, 0, 0, 0, 16)]]
/-- X8_isIn -/
def pg88 : List (List In) := [[(0, 0, 0, 0, 1), (0, 0, 1, 0, 2), (30, 0, 0, 0, 3), (2, 1, 0, 0, 4), (25, 0, 0, 0, 5), (2, 1, 0, 0, 6), (14, 0, 13, 0, 9), zz, zz, (2, 1, 0, 0, 10), (4, 0, 14, 0, 13), zz, zz, (2, 0, 0, 0, 14), (54, 0, 0, 0, 15)]]
/-- X8_deed -/
def pg89 : List (List In) := [[(0, 0, 0, 0, 1), (2, 2, 0, 0, 2), (0, 0, 1, 0, 3), (18, 0, 0, 0, 4), (30, 0, 0, 0, 5), (2, 3, 0, 0, 6), (25, 0, 0, 0, 7), (5, 0, 0, 0, 8)]]
/-- X8_withDeed -/
def pg90 : List (List In) := [[(0, 0, 0, 0, 1), (2, 3, 0, 0, 2), (2, 2, 0, 0, 3), (0, 0, 1, 0, 4), (18, 0, 0, 0, 5), (23, 0, 0, 0, 6), (2, -1, 0, 0, 7), (38, 0, 0, 0, 8), (25, 0, 0, 0, 9), (0, 0, 2, 0, 10), (2, 2, 0, 0, 11), (0, 0, 1, 0, 12), (18, 0, 0, 0, 13), (23, 0, 0, 0, 14), (33, 0, 0, 0, 15), (5, 0, 0, 0, 16)]]
/-- X8_sum -/
def pg91 : List (List In) := [[(2, 0, 0, 0, 1), (10, 0, 1, 0, 2), (2, 0, 0, 0, 3), (10, 0, 2, 0, 4), (0, 0, 2, 0, 5), (2, 6, 0, 0, 7), zz, (12, 0, 24, 0, 10), zz, zz, (0, 0, 1, 0, 11), (0, 0, 0, 0, 12), (0, 0, 2, 0, 13), (3, 0, 89, 2, 16), zz, zz],
  [(9, 0, 0, 0, 17), (10, 0, 1, 0, 18), (13, 1, 2, 0, 21), zz, zz, (4, 0, 4, 0, 24), zz, zz, (0, 0, 1, 0, 25), (5, 0, 0, 0, 26)]]
/-- X9_in -/
def pg92 : List (List In) := [[(0, 0, 0, 2, 1), (0, 0, 2, 2, 2), (44, 0, 0, 0, 3), (36, 0, 17, 0, 6), zz, zz, (0, 0, 0, 2, 7), (0, 0, 4, 2, 9), zz, (44, 0, 0, 0, 10), (47, 0, 17, 0, 13), zz, zz, (2, 1, 0, 0, 14), (4, 0, 18, 0, 17), zz],
  [zz, (2, 0, 0, 0, 18), (54, 0, 0, 0, 19)]]
/-- X9_one -/
def pg93 : List (List In) := [[(0, 0, 0, 0, 1), (6, 0, 8, 0, 4), zz, zz, (2, 1, 0, 0, 5), (4, 0, 9, 0, 8), zz, zz, (2, 0, 0, 0, 9), (5, 0, 0, 0, 10)]]
/-- X9_begin -/
def pg94 : List (List In) := [[(0, 0, 0, 1, 1), (0, 0, 1, 0, 2), (8, 0, 9, 0, 5), zz, zz, (2, 0, 0, 0, 6), (10, 0, 2, 0, 7), (0, 0, 2, 0, 8), (2, 6, 0, 0, 10), zz, (12, 0, 80, 0, 13), zz, zz, (0, 0, 0, 1, 14), (1, 0, 9, 1, 17), zz],
  [zz, (0, 0, 2, 0, 18), (2, 1, 0, 0, 19), (16, 0, 0, 0, 20), (0, 0, 0, 1, 21), (1, 0, 9, 2, 24), zz, zz, (2, 25, 0, 0, 26), zz, (0, 0, 2, 0, 27), (18, 0, 0, 0, 28), (2, 0, 0, 0, 29), (16, 0, 0, 0, 30), (0, 0, 0, 1, 31), (1, 0, 9, 3, 34)],
  [zz, zz, (2, 25, 0, 0, 36), zz, (0, 0, 2, 0, 37), (18, 0, 0, 0, 38), (2, 0, 0, 0, 39), (16, 0, 0, 0, 40), (0, 0, 0, 1, 41), (1, 0, 9, 4, 44), zz, zz, (2, 25, 0, 0, 46), zz, (0, 0, 2, 0, 47), (18, 0, 0, 0, 48)],
  [(2, 0, 0, 0, 49), (16, 0, 0, 0, 50), (0, 0, 0, 1, 51), (1, 0, 9, 5, 54), zz, zz, (2, 25, 0, 0, 56), zz, (0, 0, 2, 0, 57), (18, 0, 0, 0, 58), (2, 0, 0, 0, 59), (16, 0, 0, 0, 60), (0, 0, 0, 1, 61), (1, 0, 9, 12, 64), zz, zz],
  [(0, 0, 2, 0, 65), (2, 0, 0, 0, 66), (16, 0, 0, 0, 67), (0, 0, 0, 1, 68), (1, 0, 9, 13, 71), zz, zz, (0, 0, 2, 0, 72), (2, 0, 0, 0, 73), (16, 0, 0, 0, 74), (13, 1, 2, 0, 77), zz, zz, (4, 0, 7, 0, 80), zz, zz],
  [(19, 0, 0, 0, 81)]]
/-- X9_persons -/
def pg95 : List (List In) := [[(0, 0, 1, 0, 1), (21, 0, 0, 0, 2), (24, 1, 0, 0, 3), (24, 6, 1, 0, 6), zz, zz, (3, 0, 92, 3, 9), zz, zz, (11, 0, 16, 0, 12), zz, zz, (2, -1002, 0, 0, 15), zz, zz, (5, 0, 0, 0, 16)],
  [(0, 0, 0, 1, 17), (0, 0, 1, 0, 18), (3, 0, 94, 82, 21), zz, zz, (0, 0, 1, 0, 22), (5, 0, 0, 0, 23)]]
/-- X9_noPerson -/
def pg96 : List (List In) := [[(0, 0, 1, 0, 1), (21, 0, 0, 0, 2), (24, 0, 0, 0, 3), (0, 0, 0, 1, 4), (1, 0, 9, 0, 7), zz, zz, (2, 1, 0, 0, 8), (17, 0, 0, 0, 9), (21, 0, 0, 0, 10), (3, 0, 92, 3, 13), zz, zz, (11, 0, 20, 0, 16), zz, zz],
  [(2, 1, 0, 0, 17), (4, 0, 21, 0, 20), zz, zz, (2, 0, 0, 0, 21), (54, 0, 0, 0, 22)]]
/-- X9_allRows -/
def pg97 : List (List In) := [[(2, 1, 0, 0, 1), (2, 2, 0, 0, 2), (0, 0, 0, 1, 3), (1, 0, 9, 0, 6), zz, zz, (18, 0, 0, 0, 7), (23, 0, 0, 0, 8), (5, 0, 0, 0, 9)]]
/-- X9_noRow -/
def pg98 : List (List In) := [[(0, 0, 1, 0, 1), (21, 0, 0, 0, 2), (24, 0, 0, 0, 3), (0, 0, 0, 1, 4), (3, 0, 97, 81, 7), zz, zz, (2, 1, 0, 0, 8), (17, 0, 0, 0, 9), (21, 0, 0, 0, 10), (3, 0, 92, 3, 13), zz, zz, (11, 0, 20, 0, 16), zz, zz],
  [(2, 1, 0, 0, 17), (4, 0, 21, 0, 20), zz, zz, (2, 0, 0, 0, 21), (54, 0, 0, 0, 22)]]
/-- X9_isDay -/
def pg99 : List (List In) := [[(0, 0, 0, 0, 1), (21, 0, 0, 0, 2), (24, 1, 0, 0, 3), (24, 9, 1, 0, 6), zz, zz, (3, 0, 92, 3, 9), zz, zz, (54, 0, 0, 0, 10)]]
/-- X9_feed -/
def pg100 : List (List In) := [[(0, 0, 1, 0, 1), (21, 0, 0, 0, 2), (24, 1, 0, 0, 3), (24, 8, 1, 0, 6), zz, zz, (3, 0, 92, 3, 9), zz, zz, (11, 0, 16, 0, 12), zz, zz, (2, -1002, 0, 0, 15), zz, zz, (5, 0, 0, 0, 16)],
  [(0, 0, 0, 1, 17), (1, 0, 9, 15, 20), zz, zz, (0, 0, 1, 0, 21), (9, 0, 0, 0, 22), (2, 120, 0, 0, 24), zz, (29, 0, 31, 0, 27), zz, zz, (2, -1004, 0, 0, 30), zz, zz, (5, 0, 0, 0, 31), (0, 0, 1, 0, 32)],
  [(2, 1, 0, 0, 33), (17, 0, 0, 0, 34), (10, 0, 4, 0, 36), zz, (0, 0, 4, 0, 38), zz, (36, 0, 78, 0, 41), zz, zz, (0, 0, 0, 1, 42), (1, 0, 9, 14, 45), zz, zz, (0, 0, 0, 1, 46), (1, 0, 9, 15, 49), zz],
  [zz, (0, 0, 2, 2, 50), (2, 8, 0, 0, 52), zz, (0, 0, 4, 0, 54), zz, (18, 0, 0, 0, 55), (41, 0, 0, 0, 56), (24, 255, 1, 0, 59), zz, zz, (40, 0, 0, 0, 60), (45, 0, 0, 0, 61), (16, 0, 0, 0, 62), (0, 0, 0, 1, 63), (20, 0, 0, 0, 64)],
  [(1, 0, 9, 15, 67), zz, zz, (2, 1, 0, 0, 68), (9, 0, 0, 0, 69), (8, 0, 9, 15, 72), zz, zz, (13, -1, 4, 0, 75), zz, zz, (4, 0, 36, 0, 78), zz, zz, (0, 0, 0, 1, 79), (1, 0, 9, 15, 82)],
  [zz, zz, (5, 0, 0, 0, 83)]]
/-- X9_here -/
def pg101 : List (List In) := [[(0, 0, 0, 1, 1), (1, 0, 9, 16, 4), zz, zz, (0, 0, 0, 1, 5), (1, 0, 9, 15, 8), zz, zz, (12, 0, 38, 0, 11), zz, zz, (0, 0, 0, 1, 12), (1, 0, 9, 14, 15), zz, zz, (0, 0, 0, 1, 16)],
  [(1, 0, 9, 16, 19), zz, zz, (7, 0, 0, 0, 20), (2, 32, 0, 0, 22), zz, (14, 0, 38, 0, 25), zz, zz, (0, 0, 0, 1, 26), (20, 0, 0, 0, 27), (1, 0, 9, 16, 30), zz, zz, (2, 1, 0, 0, 31), (9, 0, 0, 0, 32)],
  [(8, 0, 9, 16, 35), zz, zz, (4, 0, 0, 0, 38), zz, zz, (0, 0, 0, 1, 39), (1, 0, 9, 16, 42), zz, zz, (0, 0, 0, 1, 43), (1, 0, 9, 15, 46), zz, zz, (12, 0, 61, 0, 49), zz],
  [zz, (0, 0, 0, 1, 50), (1, 0, 9, 14, 53), zz, zz, (0, 0, 0, 1, 54), (1, 0, 9, 16, 57), zz, zz, (7, 0, 0, 0, 58), (4, 0, 62, 0, 61), zz, zz, (2, -1, 0, 0, 62), (5, 0, 0, 0, 63)]]
/-- X9_want -/
def pg102 : List (List In) := [[(0, 0, 1, 0, 1), (11, 0, 21, 0, 4), zz, zz, (0, 0, 0, 1, 5), (1, 0, 9, 19, 8), zz, zz, (11, 0, 21, 0, 11), zz, zz, (0, 0, 0, 1, 12), (0, 0, 2, 0, 13), (8, 0, 9, 19, 16), zz, zz],
  [(0, 0, 0, 1, 17), (0, 0, 3, 0, 18), (8, 0, 9, 20, 21), zz, zz, (0, 0, 0, 1, 22), (1, 0, 9, 19, 25), zz, zz, (11, 0, 32, 0, 28), zz, zz, (2, 1, 0, 0, 29), (4, 0, 33, 0, 32), zz, zz],
  [(2, 0, 0, 0, 33), (54, 0, 0, 0, 34)]]
/-- X9_takeWord -/
def pg103 : List (List In) := [[(0, 0, 0, 1, 1), (3, 0, 101, 81, 4), zz, zz, (10, 0, 1, 0, 5), (0, 0, 0, 1, 6), (0, 0, 0, 1, 7), (1, 0, 9, 16, 10), zz, zz, (8, 0, 9, 17, 13), zz, zz, (0, 0, 0, 1, 14), (1, 0, 9, 16, 17), zz],
  [zz, (0, 0, 0, 1, 18), (1, 0, 9, 15, 21), zz, zz, (12, 0, 59, 0, 24), zz, zz, (0, 0, 0, 1, 25), (1, 0, 9, 14, 28), zz, zz, (0, 0, 0, 1, 29), (1, 0, 9, 16, 32), zz, zz],
  [(7, 0, 0, 0, 33), (21, 0, 0, 0, 34), (24, 97, 1, 0, 37), zz, zz, (24, 122, 1, 0, 40), zz, zz, (3, 0, 92, 3, 43), zz, zz, (6, 0, 59, 0, 46), zz, zz, (0, 0, 0, 1, 47), (20, 0, 0, 0, 48)],
  [(1, 0, 9, 16, 51), zz, zz, (2, 1, 0, 0, 52), (9, 0, 0, 0, 53), (8, 0, 9, 16, 56), zz, zz, (4, 0, 13, 0, 59), zz, zz, (0, 0, 0, 1, 60), (0, 0, 0, 1, 61), (1, 0, 9, 16, 64), zz, zz],
  [(0, 0, 0, 1, 65), (1, 0, 9, 17, 68), zz, zz, (17, 0, 0, 0, 69), (8, 0, 9, 18, 72), zz, zz, (19, 0, 0, 0, 73)]]
/-- X9_isWord -/
def pg104 : List (List In) := [[(0, 0, 0, 1, 1), (1, 0, 9, 18, 4), zz, zz, (0, 0, 1, 0, 5), (14, 0, 12, 0, 8), zz, zz, (2, 1, 0, 0, 9), (4, 0, 13, 0, 12), zz, zz, (2, 0, 0, 0, 13), (10, 0, 7, 0, 15), zz, (2, 0, 0, 0, 16)],
  [(10, 0, 8, 0, 18), zz, (0, 0, 8, 0, 20), zz, (0, 0, 1, 0, 21), (12, 0, 100, 0, 24), zz, zz, (0, 0, 7, 0, 26), zz, (6, 0, 100, 0, 29), zz, zz, (0, 0, 0, 1, 30), (1, 0, 9, 14, 33), zz],
  [zz, (0, 0, 0, 1, 34), (1, 0, 9, 17, 37), zz, zz, (0, 0, 8, 0, 39), zz, (9, 0, 0, 0, 40), (7, 0, 0, 0, 41), (0, 0, 8, 0, 43), zz, (11, 0, 50, 0, 46), zz, zz, (0, 0, 2, 0, 47), (4, 0, 84, 0, 50)],
  [zz, zz, (0, 0, 8, 0, 52), zz, (2, 1, 0, 0, 53), (14, 0, 60, 0, 56), zz, zz, (0, 0, 3, 0, 57), (4, 0, 84, 0, 60), zz, zz, (0, 0, 8, 0, 62), zz, (2, 2, 0, 0, 63), (14, 0, 71, 0, 66)],
  [zz, zz, (0, 0, 4, 0, 68), zz, (4, 0, 84, 0, 71), zz, zz, (0, 0, 8, 0, 73), zz, (2, 3, 0, 0, 74), (14, 0, 82, 0, 77), zz, zz, (0, 0, 5, 0, 79), zz, (4, 0, 84, 0, 82)],
  [zz, zz, (0, 0, 6, 0, 84), zz, (14, 0, 91, 0, 87), zz, zz, (2, 1, 0, 0, 88), (4, 0, 92, 0, 91), zz, zz, (2, 0, 0, 0, 92), (10, 0, 7, 0, 94), zz, (13, 1, 8, 0, 97), zz],
  [zz, (4, 0, 18, 0, 100), zz, zz, (0, 0, 7, 0, 102), zz, (54, 0, 0, 0, 103)]]
/-- X9_takes -/
def pg105 : List (List In) := [[(0, 0, 0, 1, 1), (1, 0, 9, 19, 4), zz, zz, (31, 0, 9, 0, 7), zz, zz, (2, 0, 0, 0, 8), (54, 0, 0, 0, 9), (0, 0, 0, 1, 10), (3, 0, 103, 81, 13), zz, zz, (0, 0, 0, 1, 14), (0, 0, 1, 0, 15), (0, 0, 2, 0, 16)],
  [(0, 0, 3, 0, 17), (0, 0, 4, 0, 19), zz, (0, 0, 5, 0, 21), zz, (0, 0, 6, 0, 23), zz, (3, 0, 104, 87, 26), zz, zz, (10, 0, 7, 0, 28), zz, (0, 0, 0, 1, 29), (0, 0, 7, 0, 31), zz, (6, 0, 41, 0, 34)],
  [zz, zz, (0, 0, 0, 1, 35), (1, 0, 9, 16, 38), zz, zz, (4, 0, 45, 0, 41), zz, zz, (0, 0, 0, 1, 42), (1, 0, 9, 17, 45), zz, zz, (8, 0, 9, 16, 48), zz, zz],
  [(0, 0, 7, 0, 50), zz, (54, 0, 0, 0, 51)]]
/-- X9_takeNumber -/
def pg106 : List (List In) := [[(0, 0, 0, 1, 1), (1, 0, 9, 19, 4), zz, zz, (31, 0, 9, 0, 7), zz, zz, (2, 0, 0, 0, 8), (5, 0, 0, 0, 9), (0, 0, 0, 1, 10), (3, 0, 101, 81, 13), zz, zz, (10, 0, 3, 0, 14), (0, 0, 0, 1, 15), (0, 0, 0, 1, 16)],
  [(1, 0, 9, 16, 19), zz, zz, (8, 0, 9, 17, 22), zz, zz, (0, 0, 0, 1, 23), (0, 0, 3, 0, 24), (21, 0, 0, 0, 25), (24, 48, 1, 0, 28), zz, zz, (24, 57, 1, 0, 31), zz, zz, (3, 0, 92, 3, 34)],
  [zz, zz, (2, 1, 0, 0, 35), (0, 0, 0, 1, 36), (1, 0, 9, 16, 39), zz, zz, (3, 0, 102, 84, 42), zz, zz, (11, 0, 47, 0, 45), zz, zz, (2, 0, 0, 0, 46), (5, 0, 0, 0, 47), (2, 0, 0, 0, 48)],
  [(10, 0, 4, 0, 50), zz, (0, 0, 0, 1, 51), (1, 0, 9, 16, 54), zz, zz, (0, 0, 0, 1, 55), (1, 0, 9, 15, 58), zz, zz, (12, 0, 129, 0, 61), zz, zz, (0, 0, 0, 1, 62), (1, 0, 9, 14, 65), zz],
  [zz, (0, 0, 0, 1, 66), (1, 0, 9, 16, 69), zz, zz, (7, 0, 0, 0, 70), (21, 0, 0, 0, 71), (24, 48, 1, 0, 74), zz, zz, (24, 57, 1, 0, 77), zz, zz, (3, 0, 92, 3, 80), zz, zz],
  [(6, 0, 129, 0, 83), zz, zz, (0, 0, 4, 0, 85), zz, (2, 999, 0, 0, 88), zz, zz, (29, 0, 96, 0, 91), zz, zz, (0, 0, 4, 0, 93), zz, (4, 0, 114, 0, 96), zz, zz],
  [(2, 10, 0, 0, 98), zz, (0, 0, 4, 0, 100), zz, (18, 0, 0, 0, 101), (0, 0, 0, 1, 102), (1, 0, 9, 14, 105), zz, zz, (0, 0, 0, 1, 106), (1, 0, 9, 16, 109), zz, zz, (7, 0, 0, 0, 110), (9, 0, 0, 0, 111), (2, 48, 0, 0, 113)],
  [zz, (17, 0, 0, 0, 114), (10, 0, 4, 0, 116), zz, (0, 0, 0, 1, 117), (20, 0, 0, 0, 118), (1, 0, 9, 16, 121), zz, zz, (2, 1, 0, 0, 122), (9, 0, 0, 0, 123), (8, 0, 9, 16, 126), zz, zz, (4, 0, 50, 0, 129), zz],
  [zz, (0, 0, 0, 1, 130), (0, 0, 0, 1, 131), (1, 0, 9, 16, 134), zz, zz, (0, 0, 0, 1, 135), (1, 0, 9, 17, 138), zz, zz, (17, 0, 0, 0, 139), (2, 3, 0, 0, 140), (12, 0, 160, 0, 143), zz, zz, (0, 0, 4, 0, 145)],
  [zz, (21, 0, 0, 0, 146), (0, 0, 1, 0, 147), (21, 0, 0, 0, 148), (0, 0, 2, 0, 149), (21, 0, 0, 0, 150), (3, 0, 92, 3, 153), zz, zz, (6, 0, 160, 0, 156), zz, zz, (2, 1, 0, 0, 157), (4, 0, 161, 0, 160), zz, zz],
  [(2, 0, 0, 0, 161), (2, 2, 0, 0, 162), (0, 0, 0, 1, 163), (1, 0, 9, 17, 166), zz, zz, (3, 0, 102, 84, 169), zz, zz, (10, 0, 5, 0, 171), zz, (0, 0, 4, 0, 173), zz, (5, 0, 0, 0, 174)]]
/-- X9_addSign -/
def pg107 : List (List In) := [[(0, 0, 0, 1, 1), (1, 0, 9, 27, 4), zz, zz, (0, 0, 0, 1, 5), (1, 0, 9, 22, 8), zz, zz, (0, 0, 1, 0, 9), (16, 0, 0, 0, 10), (0, 0, 0, 1, 11), (1, 0, 9, 28, 14), zz, zz, (0, 0, 0, 1, 15), (1, 0, 9, 22, 18)],
  [zz, zz, (2, 0, 0, 0, 19), (16, 0, 0, 0, 20), (0, 0, 0, 1, 21), (1, 0, 9, 29, 24), zz, zz, (0, 0, 0, 1, 25), (1, 0, 9, 22, 28), zz, zz, (2, 5, 0, 0, 29), (16, 0, 0, 0, 30), (0, 0, 0, 1, 31), (1, 0, 9, 30, 34)],
  [zz, zz, (0, 0, 0, 1, 35), (1, 0, 9, 22, 38), zz, zz, (2, 0, 0, 0, 39), (16, 0, 0, 0, 40), (0, 0, 0, 1, 41), (1, 0, 9, 31, 44), zz, zz, (0, 0, 0, 1, 45), (1, 0, 9, 22, 48), zz, zz],
  [(2, 1, 0, 0, 49), (16, 0, 0, 0, 50), (0, 0, 0, 1, 51), (1, 0, 9, 32, 54), zz, zz, (0, 0, 0, 1, 55), (1, 0, 9, 22, 58), zz, zz, (2, 0, 0, 0, 59), (34, 0, 0, 0, 60), (0, 0, 0, 1, 61), (20, 0, 0, 0, 62), (1, 0, 9, 22, 65), zz],
  [zz, (2, 1, 0, 0, 66), (9, 0, 0, 0, 67), (8, 0, 9, 22, 70), zz, zz, (19, 0, 0, 0, 71)]]
/-- X9_takeSpan -/
def pg108 : List (List In) := [[(0, 0, 0, 1, 1), (1, 0, 9, 22, 4), zz, zz, (2, 1, 0, 0, 5), (17, 0, 0, 0, 6), (10, 0, 1, 0, 7), (0, 0, 0, 1, 8), (2, 2, 0, 0, 9), (2, 111, 0, 0, 11), zz, (2, 102, 0, 0, 13), zz, (2, 0, 0, 0, 14), (2, 0, 0, 0, 15), (2, 0, 0, 0, 16)],
  [(3, 0, 105, 87, 19), zz, zz, (6, 0, 107, 0, 22), zz, zz, (0, 0, 0, 1, 23), (1, 0, 9, 28, 26), zz, zz, (0, 0, 1, 0, 27), (0, 0, 0, 1, 28), (2, 0, 0, 0, 29), (2, 5, 0, 0, 30), (3, 0, 106, 83, 33), zz],
  [zz, (16, 0, 0, 0, 34), (0, 0, 0, 1, 35), (1, 0, 9, 19, 38), zz, zz, (11, 0, 107, 0, 41), zz, zz, (0, 0, 0, 1, 42), (0, 0, 0, 1, 43), (2, 2, 0, 0, 44), (2, 116, 0, 0, 46), zz, (2, 111, 0, 0, 48), zz],
  [(2, 0, 0, 0, 49), (2, 0, 0, 0, 50), (2, 0, 0, 0, 51), (3, 0, 105, 87, 54), zz, zz, (2, 1, 0, 0, 55), (0, 0, 0, 1, 56), (1, 0, 9, 17, 59), zz, zz, (3, 0, 102, 84, 62), zz, zz, (6, 0, 107, 0, 65), zz],
  [zz, (0, 0, 0, 1, 66), (1, 0, 9, 29, 69), zz, zz, (0, 0, 1, 0, 70), (0, 0, 0, 1, 71), (2, 0, 0, 0, 72), (2, 5, 0, 0, 73), (3, 0, 106, 83, 76), zz, zz, (16, 0, 0, 0, 77), (0, 0, 0, 1, 78), (0, 0, 0, 1, 79), (1, 0, 9, 29, 82)],
  [zz, zz, (0, 0, 1, 0, 83), (7, 0, 0, 0, 84), (0, 0, 0, 1, 85), (1, 0, 9, 28, 88), zz, zz, (0, 0, 1, 0, 89), (7, 0, 0, 0, 90), (22, 0, 97, 0, 93), zz, zz, (2, 1, 0, 0, 94), (4, 0, 98, 0, 97), zz],
  [zz, (2, 0, 0, 0, 98), (2, 3, 0, 0, 99), (0, 0, 0, 1, 100), (1, 0, 9, 17, 103), zz, zz, (3, 0, 102, 84, 106), zz, zz, (10, 0, 2, 0, 107), (0, 0, 0, 1, 108), (2, 4, 0, 0, 109), (2, 103, 0, 0, 111), zz, (2, 105, 0, 0, 113)],
  [zz, (2, 118, 0, 0, 115), zz, (2, 101, 0, 0, 117), zz, (2, 0, 0, 0, 118), (3, 0, 105, 87, 121), zz, zz, (6, 0, 143, 0, 124), zz, zz, (0, 0, 0, 1, 125), (1, 0, 9, 31, 128), zz, zz],
  [(0, 0, 1, 0, 129), (0, 0, 0, 1, 130), (2, 0, 0, 0, 131), (2, 3, 0, 0, 132), (3, 0, 106, 83, 135), zz, zz, (16, 0, 0, 0, 136), (0, 0, 0, 1, 137), (1, 0, 9, 32, 140), zz, zz, (0, 0, 1, 0, 141), (2, 1, 0, 0, 142), (34, 0, 0, 0, 143), (19, 0, 0, 0, 144)]]
/-- X9_takeOne -/
def pg109 : List (List In) := [[(0, 0, 0, 1, 1), (2, 3, 0, 0, 2), (2, 119, 0, 0, 4), zz, (2, 104, 0, 0, 6), zz, (2, 111, 0, 0, 8), zz, (2, 0, 0, 0, 9), (2, 0, 0, 0, 10), (3, 0, 104, 87, 13), zz, zz, (6, 0, 80, 0, 16), zz, zz],
  [(0, 0, 0, 1, 17), (2, 0, 0, 0, 18), (3, 0, 107, 82, 21), zz, zz, (0, 0, 0, 1, 22), (1, 0, 9, 22, 25), zz, zz, (2, 1, 0, 0, 26), (17, 0, 0, 0, 27), (10, 0, 2, 0, 28), (0, 0, 0, 1, 29), (1, 0, 9, 28, 32), zz, zz],
  [(0, 0, 2, 0, 33), (0, 0, 0, 1, 34), (2, 0, 0, 0, 35), (2, 5, 0, 0, 36), (3, 0, 106, 83, 39), zz, zz, (16, 0, 0, 0, 40), (0, 0, 0, 1, 41), (2, 5, 0, 0, 42), (2, 103, 0, 0, 44), zz, (2, 105, 0, 0, 46), zz, (2, 118, 0, 0, 48), zz],
  [(2, 101, 0, 0, 50), zz, (2, 115, 0, 0, 52), zz, (3, 0, 105, 87, 55), zz, zz, (6, 0, 77, 0, 58), zz, zz, (0, 0, 0, 1, 59), (1, 0, 9, 31, 62), zz, zz, (0, 0, 2, 0, 63), (0, 0, 0, 1, 64)],
  [(2, 0, 0, 0, 65), (2, 3, 0, 0, 66), (3, 0, 106, 83, 69), zz, zz, (16, 0, 0, 0, 70), (0, 0, 0, 1, 71), (1, 0, 9, 32, 74), zz, zz, (0, 0, 2, 0, 75), (2, 1, 0, 0, 76), (34, 0, 0, 0, 77), (4, 0, 248, 0, 80), zz, zz],
  [(0, 0, 0, 1, 81), (2, 3, 0, 0, 82), (2, 97, 0, 0, 84), zz, (2, 108, 0, 0, 86), zz, (2, 108, 0, 0, 88), zz, (2, 0, 0, 0, 89), (2, 0, 0, 0, 90), (3, 0, 104, 87, 93), zz, zz, (6, 0, 108, 0, 96), zz, zz],
  [(0, 0, 0, 1, 97), (2, 1, 0, 0, 98), (3, 0, 107, 82, 101), zz, zz, (0, 0, 0, 1, 102), (3, 0, 108, 81, 105), zz, zz, (4, 0, 248, 0, 108), zz, zz, (0, 0, 0, 1, 109), (2, 3, 0, 0, 110), (2, 97, 0, 0, 112), zz],
  [(2, 110, 0, 0, 114), zz, (2, 121, 0, 0, 116), zz, (2, 0, 0, 0, 117), (2, 0, 0, 0, 118), (3, 0, 104, 87, 121), zz, zz, (6, 0, 156, 0, 124), zz, zz, (0, 0, 0, 1, 125), (2, 2, 0, 0, 126), (3, 0, 107, 82, 129), zz],
  [zz, (0, 0, 0, 1, 130), (1, 0, 9, 22, 133), zz, zz, (2, 1, 0, 0, 134), (17, 0, 0, 0, 135), (10, 0, 2, 0, 136), (0, 0, 0, 1, 137), (1, 0, 9, 30, 140), zz, zz, (0, 0, 2, 0, 141), (0, 0, 0, 1, 142), (2, 0, 0, 0, 143), (2, 6, 0, 0, 145)],
  [zz, (3, 0, 106, 83, 148), zz, zz, (16, 0, 0, 0, 149), (0, 0, 0, 1, 150), (3, 0, 108, 81, 153), zz, zz, (4, 0, 248, 0, 156), zz, zz, (0, 0, 0, 1, 157), (2, 3, 0, 0, 158), (2, 115, 0, 0, 160), zz],
  [(2, 117, 0, 0, 162), zz, (2, 109, 0, 0, 164), zz, (2, 0, 0, 0, 165), (2, 0, 0, 0, 166), (3, 0, 104, 87, 169), zz, zz, (6, 0, 198, 0, 172), zz, zz, (0, 0, 0, 1, 173), (2, 3, 0, 0, 174), (3, 0, 107, 82, 177), zz],
  [zz, (0, 0, 0, 1, 178), (1, 0, 9, 30, 181), zz, zz, (0, 0, 0, 1, 182), (1, 0, 9, 22, 185), zz, zz, (2, 1, 0, 0, 186), (17, 0, 0, 0, 187), (0, 0, 0, 1, 188), (2, 0, 0, 0, 189), (2, 18, 0, 0, 191), zz, (3, 0, 106, 83, 194)],
  [zz, zz, (16, 0, 0, 0, 195), (4, 0, 248, 0, 198), zz, zz, (0, 0, 0, 1, 199), (2, 3, 0, 0, 200), (2, 100, 0, 0, 202), zz, (2, 97, 0, 0, 204), zz, (2, 121, 0, 0, 206), zz, (2, 0, 0, 0, 207), (2, 0, 0, 0, 208)],
  [(3, 0, 104, 87, 211), zz, zz, (6, 0, 240, 0, 214), zz, zz, (0, 0, 0, 1, 215), (2, 4, 0, 0, 216), (3, 0, 107, 82, 219), zz, zz, (0, 0, 0, 1, 220), (1, 0, 9, 30, 223), zz, zz, (0, 0, 0, 1, 224)],
  [(1, 0, 9, 22, 227), zz, zz, (2, 1, 0, 0, 228), (17, 0, 0, 0, 229), (0, 0, 0, 1, 230), (2, 1, 0, 0, 231), (2, 9, 0, 0, 233), zz, (3, 0, 106, 83, 236), zz, zz, (16, 0, 0, 0, 237), (4, 0, 248, 0, 240), zz, zz],
  [(0, 0, 0, 1, 241), (2, 0, 0, 0, 242), (2, 1, 0, 0, 243), (0, 0, 1, 0, 244), (3, 0, 102, 84, 247), zz, zz, (10, 0, 2, 0, 248), (19, 0, 0, 0, 249)]]
/-- X9_open -/
def pg110 : List (List In) := [[(2, 0, 0, 0, 1), (10, 0, 1, 0, 2), (2, 0, 0, 0, 3), (10, 0, 2, 0, 4), (0, 0, 2, 0, 5), (0, 0, 0, 1, 6), (1, 0, 9, 34, 9), zz, zz, (12, 0, 50, 0, 12), zz, zz, (0, 0, 1, 0, 13), (0, 0, 0, 1, 14), (1, 0, 9, 33, 17), zz],
  [zz, (0, 0, 2, 0, 18), (7, 0, 0, 0, 19), (2, 5, 0, 0, 20), (15, 0, 34, 0, 23), zz, zz, (0, 0, 0, 1, 24), (1, 0, 9, 33, 27), zz, zz, (0, 0, 2, 0, 28), (7, 0, 0, 0, 29), (2, 8, 0, 0, 31), zz, (14, 0, 38, 0, 34)],
  [zz, zz, (2, 1, 0, 0, 35), (4, 0, 39, 0, 38), zz, zz, (2, 0, 0, 0, 39), (3, 0, 93, 1, 42), zz, zz, (9, 0, 0, 0, 43), (10, 0, 1, 0, 44), (13, 1, 2, 0, 47), zz, zz, (4, 0, 4, 0, 50)],
  [zz, zz, (0, 0, 1, 0, 51), (5, 0, 0, 0, 52)]]
/-- X9_push -/
def pg111 : List (List In) := [[(0, 0, 0, 1, 1), (1, 0, 9, 33, 4), zz, zz, (0, 0, 0, 1, 5), (1, 0, 9, 34, 8), zz, zz, (0, 0, 1, 0, 9), (16, 0, 0, 0, 10), (0, 0, 0, 1, 11), (20, 0, 0, 0, 12), (1, 0, 9, 34, 15), zz, zz, (2, 1, 0, 0, 16)],
  [(9, 0, 0, 0, 17), (8, 0, 9, 34, 20), zz, zz, (19, 0, 0, 0, 21)]]
/-- X9_pop -/
def pg112 : List (List In) := [[(0, 0, 0, 1, 1), (20, 0, 0, 0, 2), (1, 0, 9, 34, 5), zz, zz, (2, 1, 0, 0, 6), (17, 0, 0, 0, 7), (8, 0, 9, 34, 10), zz, zz, (0, 0, 0, 1, 11), (0, 0, 0, 1, 12), (1, 0, 9, 33, 15), zz, zz, (0, 0, 0, 1, 16)],
  [(1, 0, 9, 34, 19), zz, zz, (7, 0, 0, 0, 20), (3, 0, 107, 82, 23), zz, zz, (19, 0, 0, 0, 24)]]
/-- X9_endOne -/
def pg113 : List (List In) := [[(0, 0, 0, 1, 1), (1, 0, 9, 34, 4), zz, zz, (31, 0, 29, 0, 7), zz, zz, (0, 0, 0, 1, 8), (1, 0, 9, 33, 11), zz, zz, (0, 0, 0, 1, 12), (1, 0, 9, 34, 15), zz, zz, (2, 1, 0, 0, 16)],
  [(17, 0, 0, 0, 17), (7, 0, 0, 0, 18), (2, 5, 0, 0, 19), (14, 0, 29, 0, 22), zz, zz, (0, 0, 0, 1, 23), (3, 0, 112, 81, 26), zz, zz, (4, 0, 0, 0, 29), zz, zz, (19, 0, 0, 0, 30)]]
/-- X9_hasOpen -/
def pg114 : List (List In) := [[(2, 0, 0, 0, 1), (10, 0, 1, 0, 2), (2, 0, 0, 0, 3), (10, 0, 2, 0, 4), (0, 0, 2, 0, 5), (0, 0, 0, 1, 6), (1, 0, 9, 34, 9), zz, zz, (12, 0, 39, 0, 12), zz, zz, (0, 0, 1, 0, 13), (11, 0, 27, 0, 16), zz, zz],
  [(0, 0, 0, 1, 17), (1, 0, 9, 33, 20), zz, zz, (0, 0, 2, 0, 21), (7, 0, 0, 0, 22), (2, 8, 0, 0, 24), zz, (14, 0, 31, 0, 27), zz, zz, (2, 1, 0, 0, 28), (4, 0, 32, 0, 31), zz, zz, (2, 0, 0, 0, 32)],
  [(10, 0, 1, 0, 33), (13, 1, 2, 0, 36), zz, zz, (4, 0, 4, 0, 39), zz, zz, (0, 0, 1, 0, 40), (54, 0, 0, 0, 41)]]
/-- X9_takeHead -/
def pg115 : List (List In) := [[(2, 1, 0, 0, 1), (10, 0, 1, 0, 2), (0, 0, 1, 0, 3), (6, 0, 132, 0, 6), zz, zz, (0, 0, 0, 1, 7), (1, 0, 9, 19, 10), zz, zz, (11, 0, 132, 0, 13), zz, zz, (0, 0, 0, 1, 14), (3, 0, 101, 81, 17), zz],
  [zz, (10, 0, 2, 0, 18), (0, 0, 0, 1, 19), (1, 0, 9, 16, 22), zz, zz, (10, 0, 3, 0, 23), (0, 0, 2, 0, 24), (2, 40, 0, 0, 26), zz, (14, 0, 71, 0, 29), zz, zz, (0, 0, 0, 1, 30), (0, 0, 0, 1, 31), (3, 0, 110, 81, 34)],
  [zz, zz, (2, 6, 0, 0, 36), zz, (12, 0, 43, 0, 39), zz, zz, (2, 1, 0, 0, 40), (4, 0, 44, 0, 43), zz, zz, (2, 0, 0, 0, 44), (2, 4, 0, 0, 45), (0, 0, 3, 0, 46), (3, 0, 102, 84, 49), zz],
  [zz, (6, 0, 129, 0, 52), zz, zz, (0, 0, 0, 1, 53), (2, 8, 0, 0, 55), zz, (3, 0, 111, 82, 58), zz, zz, (0, 0, 0, 1, 59), (20, 0, 0, 0, 60), (1, 0, 9, 16, 63), zz, zz, (2, 1, 0, 0, 64)],
  [(9, 0, 0, 0, 65), (8, 0, 9, 16, 68), zz, zz, (4, 0, 129, 0, 71), zz, zz, (0, 0, 0, 1, 72), (3, 0, 103, 81, 75), zz, zz, (0, 0, 0, 1, 76), (2, 3, 0, 0, 77), (2, 110, 0, 0, 79), zz, (2, 111, 0, 0, 81)],
  [zz, (2, 116, 0, 0, 83), zz, (2, 0, 0, 0, 84), (2, 0, 0, 0, 85), (3, 0, 104, 87, 88), zz, zz, (6, 0, 122, 0, 91), zz, zz, (0, 0, 0, 1, 92), (0, 0, 0, 1, 93), (3, 0, 110, 81, 96), zz, zz],
  [(2, 6, 0, 0, 98), zz, (12, 0, 105, 0, 101), zz, zz, (2, 1, 0, 0, 102), (4, 0, 106, 0, 105), zz, zz, (2, 0, 0, 0, 106), (2, 4, 0, 0, 107), (0, 0, 3, 0, 108), (3, 0, 102, 84, 111), zz, zz, (6, 0, 129, 0, 114)],
  [zz, zz, (0, 0, 0, 1, 115), (2, 5, 0, 0, 116), (3, 0, 111, 82, 119), zz, zz, (4, 0, 129, 0, 122), zz, zz, (2, 0, 0, 0, 123), (10, 0, 1, 0, 124), (0, 0, 0, 1, 125), (0, 0, 3, 0, 126), (3, 0, 109, 82, 129), zz],
  [zz, (4, 0, 2, 0, 132), zz, zz, (19, 0, 0, 0, 133)]]
/-- X9_closeAll -/
def pg116 : List (List In) := [[(0, 0, 0, 1, 1), (1, 0, 9, 19, 4), zz, zz, (11, 0, 73, 0, 7), zz, zz, (0, 0, 0, 1, 8), (3, 0, 101, 81, 11), zz, zz, (2, 41, 0, 0, 13), zz, (14, 0, 73, 0, 16), zz, zz],
  [(0, 0, 0, 1, 17), (3, 0, 114, 81, 20), zz, zz, (6, 0, 73, 0, 23), zz, zz, (0, 0, 0, 1, 24), (1, 0, 9, 33, 27), zz, zz, (0, 0, 0, 1, 28), (1, 0, 9, 34, 31), zz, zz, (2, 1, 0, 0, 32)],
  [(17, 0, 0, 0, 33), (7, 0, 0, 0, 34), (2, 8, 0, 0, 36), zz, (15, 0, 46, 0, 39), zz, zz, (0, 0, 0, 1, 40), (3, 0, 112, 81, 43), zz, zz, (4, 0, 23, 0, 46), zz, zz, (0, 0, 0, 1, 47), (20, 0, 0, 0, 48)],
  [(1, 0, 9, 34, 51), zz, zz, (2, 1, 0, 0, 52), (17, 0, 0, 0, 53), (8, 0, 9, 34, 56), zz, zz, (0, 0, 0, 1, 57), (20, 0, 0, 0, 58), (1, 0, 9, 16, 61), zz, zz, (2, 1, 0, 0, 62), (9, 0, 0, 0, 63), (8, 0, 9, 16, 66)],
  [zz, zz, (0, 0, 0, 1, 67), (3, 0, 113, 81, 70), zz, zz, (4, 0, 0, 0, 73), zz, zz, (19, 0, 0, 0, 74)]]
/-- X9_takeSome -/
def pg117 : List (List In) := [[(0, 0, 0, 1, 1), (2, 0, 0, 0, 2), (8, 0, 9, 34, 5), zz, zz, (2, 1, 0, 0, 6), (10, 0, 1, 0, 7), (0, 0, 1, 0, 8), (6, 0, 174, 0, 11), zz, zz, (0, 0, 0, 1, 12), (1, 0, 9, 19, 15), zz, zz, (11, 0, 174, 0, 18)],
  [zz, zz, (0, 0, 0, 1, 19), (3, 0, 115, 81, 22), zz, zz, (0, 0, 0, 1, 23), (1, 0, 9, 19, 26), zz, zz, (11, 0, 7, 0, 29), zz, zz, (0, 0, 0, 1, 30), (3, 0, 113, 81, 33), zz],
  [zz, (0, 0, 0, 1, 34), (3, 0, 116, 81, 37), zz, zz, (0, 0, 0, 1, 38), (2, 3, 0, 0, 39), (2, 97, 0, 0, 41), zz, (2, 110, 0, 0, 43), zz, (2, 100, 0, 0, 45), zz, (2, 0, 0, 0, 46), (2, 0, 0, 0, 47), (3, 0, 105, 87, 50)],
  [zz, zz, (10, 0, 2, 0, 51), (0, 0, 2, 0, 52), (11, 0, 74, 0, 55), zz, zz, (0, 0, 0, 1, 56), (2, 2, 0, 0, 57), (2, 111, 0, 0, 59), zz, (2, 114, 0, 0, 61), zz, (2, 0, 0, 0, 62), (2, 0, 0, 0, 63), (2, 0, 0, 0, 64)],
  [(3, 0, 105, 87, 67), zz, zz, (6, 0, 74, 0, 70), zz, zz, (2, 1, 0, 0, 71), (4, 0, 75, 0, 74), zz, zz, (2, 0, 0, 0, 75), (10, 0, 3, 0, 76), (0, 0, 0, 1, 77), (1, 0, 9, 34, 80), zz, zz],
  [(31, 0, 134, 0, 83), zz, zz, (0, 0, 2, 0, 84), (11, 0, 91, 0, 87), zz, zz, (0, 0, 3, 0, 88), (6, 0, 134, 0, 91), zz, zz, (0, 0, 0, 1, 92), (1, 0, 9, 33, 95), zz, zz, (0, 0, 0, 1, 96)],
  [(1, 0, 9, 34, 99), zz, zz, (2, 1, 0, 0, 100), (17, 0, 0, 0, 101), (7, 0, 0, 0, 102), (2, 6, 0, 0, 104), zz, (15, 0, 127, 0, 107), zz, zz, (0, 0, 3, 0, 108), (6, 0, 134, 0, 111), zz, zz, (0, 0, 0, 1, 112)],
  [(1, 0, 9, 33, 115), zz, zz, (0, 0, 0, 1, 116), (1, 0, 9, 34, 119), zz, zz, (2, 1, 0, 0, 120), (17, 0, 0, 0, 121), (7, 0, 0, 0, 122), (2, 7, 0, 0, 124), zz, (14, 0, 134, 0, 127), zz, zz, (0, 0, 0, 1, 128)],
  [(3, 0, 112, 81, 131), zz, zz, (4, 0, 76, 0, 134), zz, zz, (0, 0, 2, 0, 135), (11, 0, 142, 0, 138), zz, zz, (0, 0, 3, 0, 139), (6, 0, 157, 0, 142), zz, zz, (0, 0, 0, 1, 143), (0, 0, 2, 0, 144)],
  [(6, 0, 152, 0, 147), zz, zz, (2, 6, 0, 0, 149), zz, (4, 0, 154, 0, 152), zz, zz, (2, 7, 0, 0, 154), zz, (3, 0, 111, 82, 157), zz, zz, (0, 0, 2, 0, 158), (11, 0, 165, 0, 161), zz],
  [zz, (0, 0, 3, 0, 162), (6, 0, 169, 0, 165), zz, zz, (2, 1, 0, 0, 166), (4, 0, 170, 0, 169), zz, zz, (2, 0, 0, 0, 170), (10, 0, 1, 0, 171), (4, 0, 7, 0, 174), zz, zz, (0, 0, 0, 1, 175), (1, 0, 9, 19, 178)],
  [zz, zz, (11, 0, 226, 0, 181), zz, zz, (0, 0, 0, 1, 182), (3, 0, 101, 81, 185), zz, zz, (10, 0, 2, 0, 186), (0, 0, 0, 1, 187), (0, 0, 0, 1, 188), (3, 0, 114, 81, 191), zz, zz, (11, 0, 198, 0, 194)],
  [zz, zz, (2, 1, 0, 0, 195), (4, 0, 199, 0, 198), zz, zz, (2, 0, 0, 0, 199), (2, 1, 0, 0, 200), (0, 0, 0, 1, 201), (1, 0, 9, 16, 204), zz, zz, (3, 0, 102, 84, 207), zz, zz, (10, 0, 3, 0, 208)],
  [(0, 0, 3, 0, 209), (6, 0, 226, 0, 212), zz, zz, (0, 0, 0, 1, 213), (1, 0, 9, 34, 216), zz, zz, (31, 0, 226, 0, 219), zz, zz, (0, 0, 0, 1, 220), (3, 0, 112, 81, 223), zz, zz, (4, 0, 208, 0, 226)],
  [zz, zz, (19, 0, 0, 0, 227)]]
/-- X9_takeRule -/
def pg118 : List (List In) := [[(0, 0, 0, 1, 1), (1, 0, 9, 21, 4), zz, zz, (10, 0, 1, 0, 5), (0, 0, 0, 1, 6), (1, 0, 9, 24, 9), zz, zz, (0, 0, 1, 0, 10), (2, 0, 0, 0, 11), (16, 0, 0, 0, 12), (0, 0, 0, 1, 13), (3, 0, 101, 81, 16), zz, zz],
  [(10, 0, 2, 0, 17), (0, 0, 2, 0, 18), (21, 0, 0, 0, 19), (24, 48, 1, 0, 22), zz, zz, (24, 57, 1, 0, 25), zz, zz, (3, 0, 92, 3, 28), zz, zz, (6, 0, 53, 0, 31), zz, zz, (0, 0, 0, 1, 32)],
  [(1, 0, 9, 23, 35), zz, zz, (0, 0, 1, 0, 36), (2, 0, 0, 0, 37), (16, 0, 0, 0, 38), (0, 0, 0, 1, 39), (1, 0, 9, 24, 42), zz, zz, (0, 0, 1, 0, 43), (0, 0, 0, 1, 44), (2, 0, 0, 0, 45), (2, 3, 0, 0, 46), (3, 0, 106, 83, 49), zz],
  [zz, (16, 0, 0, 0, 50), (4, 0, 165, 0, 53), zz, zz, (0, 0, 0, 1, 54), (3, 0, 103, 81, 57), zz, zz, (0, 0, 0, 1, 58), (2, 2, 0, 0, 59), (2, 97, 0, 0, 61), zz, (2, 115, 0, 0, 63), zz, (2, 0, 0, 0, 64)],
  [(2, 0, 0, 0, 65), (2, 0, 0, 0, 66), (3, 0, 104, 87, 69), zz, zz, (6, 0, 94, 0, 72), zz, zz, (0, 0, 0, 1, 73), (1, 0, 9, 23, 76), zz, zz, (0, 0, 1, 0, 77), (2, 1, 0, 0, 78), (16, 0, 0, 0, 79), (0, 0, 0, 1, 80)],
  [(1, 0, 9, 24, 83), zz, zz, (0, 0, 1, 0, 84), (0, 0, 0, 1, 85), (2, 0, 0, 0, 86), (2, 5, 0, 0, 87), (3, 0, 106, 83, 90), zz, zz, (16, 0, 0, 0, 91), (4, 0, 165, 0, 94), zz, zz, (0, 0, 0, 1, 95), (1, 0, 9, 23, 98)],
  [zz, zz, (0, 0, 1, 0, 99), (0, 0, 0, 1, 100), (2, 5, 0, 0, 101), (2, 108, 0, 0, 103), zz, (2, 101, 0, 0, 105), zz, (2, 97, 0, 0, 107), zz, (2, 115, 0, 0, 109), zz, (2, 116, 0, 0, 111), zz, (3, 0, 104, 87, 114)],
  [zz, zz, (6, 0, 121, 0, 117), zz, zz, (2, 2, 0, 0, 118), (4, 0, 122, 0, 121), zz, zz, (2, 3, 0, 0, 122), (16, 0, 0, 0, 123), (0, 0, 0, 1, 124), (0, 0, 0, 1, 125), (1, 0, 9, 23, 128), zz, zz],
  [(0, 0, 1, 0, 129), (7, 0, 0, 0, 130), (2, 2, 0, 0, 131), (15, 0, 151, 0, 134), zz, zz, (0, 0, 0, 1, 135), (2, 4, 0, 0, 136), (2, 109, 0, 0, 138), zz, (2, 111, 0, 0, 140), zz, (2, 115, 0, 0, 142), zz, (2, 116, 0, 0, 144), zz],
  [(2, 0, 0, 0, 145), (3, 0, 104, 87, 148), zz, zz, (6, 0, 155, 0, 151), zz, zz, (2, 1, 0, 0, 152), (4, 0, 156, 0, 155), zz, zz, (2, 0, 0, 0, 156), (2, 1, 0, 0, 157), (0, 0, 0, 1, 158), (1, 0, 9, 17, 161), zz],
  [zz, (3, 0, 102, 84, 164), zz, zz, (10, 0, 3, 0, 165), (0, 0, 0, 1, 166), (1, 0, 9, 25, 169), zz, zz, (0, 0, 1, 0, 170), (0, 0, 0, 1, 171), (1, 0, 9, 22, 174), zz, zz, (16, 0, 0, 0, 175), (0, 0, 0, 1, 176)],
  [(2, 2, 0, 0, 177), (2, 105, 0, 0, 179), zz, (2, 102, 0, 0, 181), zz, (2, 0, 0, 0, 182), (2, 0, 0, 0, 183), (2, 0, 0, 0, 184), (3, 0, 105, 87, 187), zz, zz, (6, 0, 194, 0, 190), zz, zz, (0, 0, 0, 1, 191), (3, 0, 117, 81, 194)],
  [zz, zz, (0, 0, 0, 1, 195), (1, 0, 9, 26, 198), zz, zz, (0, 0, 1, 0, 199), (0, 0, 0, 1, 200), (1, 0, 9, 22, 203), zz, zz, (16, 0, 0, 0, 204), (0, 0, 0, 1, 205), (20, 0, 0, 0, 206), (1, 0, 9, 21, 209), zz],
  [zz, (2, 1, 0, 0, 210), (9, 0, 0, 0, 211), (8, 0, 9, 21, 214), zz, zz, (19, 0, 0, 0, 215)]]
/-- X9_term -/
def pg119 : List (List In) := [[(0, 0, 0, 1, 1), (0, 0, 1, 0, 2), (3, 0, 96, 82, 5), zz, zz, (6, 0, 12, 0, 8), zz, zz, (2, -1001, 0, 0, 11), zz, zz, (5, 0, 0, 0, 12), (0, 0, 0, 1, 13), (2, 0, 0, 0, 14), (8, 0, 9, 16, 17), zz],
  [zz, (0, 0, 0, 1, 18), (2, 0, 0, 0, 19), (8, 0, 9, 19, 22), zz, zz, (0, 0, 0, 1, 23), (2, -1, 0, 0, 24), (8, 0, 9, 20, 27), zz, zz, (0, 0, 0, 1, 28), (2, 0, 0, 0, 29), (8, 0, 9, 21, 32), zz, zz],
  [(0, 0, 0, 1, 33), (2, 0, 0, 0, 34), (8, 0, 9, 22, 37), zz, zz, (2, 1, 0, 0, 38), (10, 0, 2, 0, 39), (0, 0, 2, 0, 40), (6, 0, 65, 0, 43), zz, zz, (0, 0, 0, 1, 44), (3, 0, 118, 81, 47), zz, zz, (0, 0, 0, 1, 48)],
  [(2, 4, 0, 0, 49), (2, 101, 0, 0, 51), zz, (2, 108, 0, 0, 53), zz, (2, 115, 0, 0, 55), zz, (2, 101, 0, 0, 57), zz, (2, 0, 0, 0, 58), (3, 0, 105, 87, 61), zz, zz, (10, 0, 2, 0, 62), (4, 0, 39, 0, 65), zz],
  [zz, (0, 0, 0, 1, 66), (1, 0, 9, 19, 69), zz, zz, (11, 0, 97, 0, 72), zz, zz, (0, 0, 0, 1, 73), (3, 0, 101, 81, 76), zz, zz, (10, 0, 3, 0, 77), (0, 0, 0, 1, 78), (0, 0, 3, 0, 79), (32, 0, 86, 0, 82)],
  [zz, zz, (2, 1, 0, 0, 83), (4, 0, 87, 0, 86), zz, zz, (2, 0, 0, 0, 87), (2, 1, 0, 0, 88), (0, 0, 0, 1, 89), (1, 0, 9, 16, 92), zz, zz, (3, 0, 102, 84, 95), zz, zz, (10, 0, 4, 0, 97)],
  [zz, (0, 0, 0, 1, 98), (2, 0, 0, 0, 99), (8, 0, 9, 15, 102), zz, zz, (0, 0, 0, 1, 103), (1, 0, 9, 19, 106), zz, zz, (31, 0, 117, 0, 109), zz, zz, (2, -10, 0, 0, 111), zz, (0, 0, 0, 1, 112)],
  [(1, 0, 9, 19, 115), zz, zz, (17, 0, 0, 0, 116), (5, 0, 0, 0, 117), (0, 0, 0, 1, 118), (1, 0, 9, 1, 121), zz, zz, (0, 0, 1, 0, 122), (0, 0, 0, 1, 123), (1, 0, 9, 21, 126), zz, zz, (16, 0, 0, 0, 127), (2, 0, 0, 0, 128)],
  [(10, 0, 3, 0, 129), (0, 0, 3, 0, 130), (0, 0, 0, 1, 131), (1, 0, 9, 21, 134), zz, zz, (12, 0, 211, 0, 137), zz, zz, (0, 0, 0, 1, 138), (1, 0, 9, 2, 141), zz, zz, (2, 25, 0, 0, 143), zz, (0, 0, 1, 0, 144)],
  [(18, 0, 0, 0, 145), (0, 0, 3, 0, 146), (9, 0, 0, 0, 147), (0, 0, 0, 1, 148), (1, 0, 9, 23, 151), zz, zz, (0, 0, 3, 0, 152), (7, 0, 0, 0, 153), (16, 0, 0, 0, 154), (0, 0, 0, 1, 155), (1, 0, 9, 3, 158), zz, zz, (2, 25, 0, 0, 160), zz],
  [(0, 0, 1, 0, 161), (18, 0, 0, 0, 162), (0, 0, 3, 0, 163), (9, 0, 0, 0, 164), (0, 0, 0, 1, 165), (1, 0, 9, 24, 168), zz, zz, (0, 0, 3, 0, 169), (7, 0, 0, 0, 170), (16, 0, 0, 0, 171), (0, 0, 0, 1, 172), (1, 0, 9, 4, 175), zz, zz, (2, 25, 0, 0, 177)],
  [zz, (0, 0, 1, 0, 178), (18, 0, 0, 0, 179), (0, 0, 3, 0, 180), (9, 0, 0, 0, 181), (0, 0, 0, 1, 182), (1, 0, 9, 25, 185), zz, zz, (0, 0, 3, 0, 186), (7, 0, 0, 0, 187), (16, 0, 0, 0, 188), (0, 0, 0, 1, 189), (1, 0, 9, 5, 192), zz, zz],
  [(2, 25, 0, 0, 194), zz, (0, 0, 1, 0, 195), (18, 0, 0, 0, 196), (0, 0, 3, 0, 197), (9, 0, 0, 0, 198), (0, 0, 0, 1, 199), (1, 0, 9, 26, 202), zz, zz, (0, 0, 3, 0, 203), (7, 0, 0, 0, 204), (16, 0, 0, 0, 205), (13, 1, 3, 0, 208), zz, zz],
  [(4, 0, 129, 0, 211), zz, zz, (2, 0, 0, 0, 212), (10, 0, 3, 0, 213), (0, 0, 3, 0, 214), (0, 0, 0, 1, 215), (1, 0, 9, 22, 218), zz, zz, (12, 0, 313, 0, 221), zz, zz, (2, 64, 0, 0, 223), zz, (0, 0, 1, 0, 224)],
  [(18, 0, 0, 0, 225), (0, 0, 3, 0, 226), (9, 0, 0, 0, 227), (10, 0, 4, 0, 229), zz, (0, 0, 0, 1, 230), (1, 0, 9, 6, 233), zz, zz, (0, 0, 4, 0, 235), zz, (0, 0, 0, 1, 236), (1, 0, 9, 27, 239), zz, zz, (0, 0, 3, 0, 240)],
  [(7, 0, 0, 0, 241), (16, 0, 0, 0, 242), (0, 0, 0, 1, 243), (1, 0, 9, 7, 246), zz, zz, (0, 0, 4, 0, 248), zz, (0, 0, 0, 1, 249), (1, 0, 9, 28, 252), zz, zz, (0, 0, 3, 0, 253), (7, 0, 0, 0, 254), (16, 0, 0, 0, 255), (0, 0, 0, 1, 256)],
  [(1, 0, 9, 8, 259), zz, zz, (0, 0, 4, 0, 261), zz, (0, 0, 0, 1, 262), (1, 0, 9, 29, 265), zz, zz, (0, 0, 3, 0, 266), (7, 0, 0, 0, 267), (16, 0, 0, 0, 268), (0, 0, 0, 1, 269), (1, 0, 9, 9, 272), zz, zz],
  [(0, 0, 4, 0, 274), zz, (0, 0, 0, 1, 275), (1, 0, 9, 30, 278), zz, zz, (0, 0, 3, 0, 279), (7, 0, 0, 0, 280), (16, 0, 0, 0, 281), (0, 0, 0, 1, 282), (1, 0, 9, 10, 285), zz, zz, (0, 0, 4, 0, 287), zz, (0, 0, 0, 1, 288)],
  [(1, 0, 9, 31, 291), zz, zz, (0, 0, 3, 0, 292), (7, 0, 0, 0, 293), (16, 0, 0, 0, 294), (0, 0, 0, 1, 295), (1, 0, 9, 11, 298), zz, zz, (0, 0, 4, 0, 300), zz, (0, 0, 0, 1, 301), (1, 0, 9, 32, 304), zz, zz],
  [(0, 0, 3, 0, 305), (35, 0, 0, 0, 306), (34, 0, 0, 0, 307), (13, 1, 3, 0, 310), zz, zz, (4, 0, 213, 0, 313), zz, zz, (0, 0, 0, 1, 314), (1, 0, 9, 21, 317), zz, zz, (5, 0, 0, 0, 318)]]
/-- X9_fault -/
def pg120 : List (List In) := [[(0, 0, 0, 1, 1), (1, 0, 9, 20, 4), zz, zz, (5, 0, 0, 0, 5)]]
/-- X9_deed -/
def pg121 : List (List In) := [[(0, 0, 1, 0, 1), (36, 0, 10, 0, 4), zz, zz, (0, 0, 1, 0, 5), (2, 6, 0, 0, 7), zz, (22, 0, 14, 0, 10), zz, zz, (2, 0, 0, 0, 11), (4, 0, 21, 0, 14), zz, zz, (0, 0, 0, 0, 15), (2, 2, 0, 0, 16)],
  [(0, 0, 1, 0, 17), (18, 0, 0, 0, 18), (30, 0, 0, 0, 19), (2, 3, 0, 0, 20), (25, 0, 0, 0, 21), (5, 0, 0, 0, 22)]]
/-- X9_oneHolds -/
def pg122_0 : List (List In) := [[(2, 64, 0, 0, 2), zz, (0, 0, 1, 0, 3), (18, 0, 0, 0, 4), (0, 0, 2, 0, 5), (9, 0, 0, 0, 6), (10, 0, 5, 0, 8), zz, (0, 0, 0, 1, 9), (1, 0, 9, 9, 12), zz, zz, (0, 0, 5, 0, 14), zz, (7, 0, 0, 0, 15), (0, 0, 1, 0, 16)],
  [(0, 0, 0, 1, 17), (1, 0, 9, 37, 20), zz, zz, (14, 0, 32, 0, 23), zz, zz, (0, 0, 0, 1, 24), (1, 0, 9, 38, 27), zz, zz, (0, 0, 2, 0, 28), (7, 0, 0, 0, 29), (4, 0, 33, 0, 32), zz, zz],
  [(2, 0, 0, 0, 33), (17, 0, 0, 0, 34), (10, 0, 6, 0, 36), zz, (0, 0, 0, 1, 37), (1, 0, 9, 10, 40), zz, zz, (0, 0, 5, 0, 42), zz, (7, 0, 0, 0, 43), (0, 0, 1, 0, 44), (0, 0, 0, 1, 45), (1, 0, 9, 37, 48), zz, zz],
  [(14, 0, 60, 0, 51), zz, zz, (0, 0, 0, 1, 52), (1, 0, 9, 39, 55), zz, zz, (0, 0, 2, 0, 56), (7, 0, 0, 0, 57), (4, 0, 61, 0, 60), zz, zz, (2, 0, 0, 0, 61), (17, 0, 0, 0, 62), (10, 0, 7, 0, 64), zz],
  [(0, 0, 0, 1, 65), (1, 0, 9, 6, 68), zz, zz, (0, 0, 5, 0, 70), zz, (7, 0, 0, 0, 71), (11, 0, 125, 0, 74), zz, zz, (0, 0, 0, 1, 75), (1, 0, 9, 7, 78), zz, zz, (0, 0, 5, 0, 80), zz],
  [(7, 0, 0, 0, 81), (0, 0, 1, 0, 82), (15, 0, 99, 0, 85), zz, zz, (0, 0, 0, 1, 86), (1, 0, 9, 7, 89), zz, zz, (0, 0, 5, 0, 91), zz, (7, 0, 0, 0, 92), (0, 0, 0, 1, 93), (1, 0, 9, 0, 96), zz, zz],
  [(22, 0, 103, 0, 99), zz, zz, (2, 0, 0, 0, 100), (4, 0, 114, 0, 103), zz, zz, (0, 0, 3, 0, 104), (0, 0, 0, 1, 105), (1, 0, 9, 7, 108), zz, zz, (0, 0, 5, 0, 110), zz, (7, 0, 0, 0, 111), (3, 0, 121, 2, 114)],
  [zz, zz, (0, 0, 7, 0, 116), zz, (22, 0, 123, 0, 119), zz, zz, (2, 1, 0, 0, 120), (4, 0, 124, 0, 123), zz, zz, (2, 0, 0, 0, 124), (54, 0, 0, 0, 125), (0, 0, 0, 1, 126), (1, 0, 9, 6, 129), zz],
  [zz, (0, 0, 5, 0, 131), zz, (7, 0, 0, 0, 132), (2, 4, 0, 0, 133), (14, 0, 149, 0, 136), zz, zz, (0, 0, 4, 0, 138), zz, (0, 0, 6, 0, 140), zz, (27, 0, 147, 0, 143), zz, zz, (2, 1, 0, 0, 144)],
  [(4, 0, 148, 0, 147), zz, zz, (2, 0, 0, 0, 148), (54, 0, 0, 0, 149), (2, 0, 0, 0, 150), (10, 0, 8, 0, 152), zz, (2, 0, 0, 0, 153), (10, 0, 9, 0, 155), zz, (2, 0, 0, 0, 156), (10, 0, 10, 0, 158), zz, (2, 0, 0, 0, 159), (10, 0, 11, 0, 161)],
  [zz, (0, 0, 11, 0, 163), zz, (0, 0, 0, 1, 164), (1, 0, 9, 0, 167), zz, zz, (12, 0, 263, 0, 170), zz, zz, (0, 0, 11, 0, 172), zz, (0, 0, 1, 0, 173), (15, 0, 257, 0, 176), zz, zz],
  [(0, 0, 10, 0, 178), zz, (0, 0, 3, 0, 179), (0, 0, 11, 0, 181), zz, (3, 0, 121, 2, 184), zz, zz, (9, 0, 0, 0, 185), (10, 0, 10, 0, 187), zz, (0, 0, 11, 0, 189), zz, (0, 0, 0, 1, 190), (1, 0, 9, 7, 193), zz],
  [zz, (0, 0, 5, 0, 195), zz, (7, 0, 0, 0, 196), (22, 0, 215, 0, 199), zz, zz, (0, 0, 11, 0, 201), zz, (0, 0, 0, 1, 202), (1, 0, 9, 8, 205), zz, zz, (0, 0, 5, 0, 207), zz, (7, 0, 0, 0, 208)],
  [(27, 0, 215, 0, 211), zz, zz, (2, 1, 0, 0, 212), (4, 0, 216, 0, 215), zz, zz, (2, 0, 0, 0, 216), (10, 0, 12, 0, 218), zz, (0, 0, 8, 0, 220), zz, (0, 0, 12, 0, 222), zz, (3, 0, 93, 1, 225), zz],
  [zz, (9, 0, 0, 0, 226), (10, 0, 8, 0, 228), zz, (0, 0, 9, 0, 230), zz, (0, 0, 12, 0, 232), zz, (6, 0, 250, 0, 235), zz, zz, (0, 0, 3, 0, 236), (0, 0, 11, 0, 238), zz, (3, 0, 121, 2, 241), zz],
  [zz, (0, 0, 7, 0, 243), zz, (22, 0, 250, 0, 246), zz, zz, (2, 1, 0, 0, 247), (4, 0, 251, 0, 250), zz, zz, (2, 0, 0, 0, 251), (3, 0, 93, 1, 254), zz, zz, (9, 0, 0, 0, 255), (10, 0, 9, 0, 257)]]
def pg122_1 : List (List In) := [[zz, (13, 1, 11, 0, 260), zz, zz, (4, 0, 161, 0, 263), zz, zz, (0, 0, 0, 1, 264), (1, 0, 9, 6, 267), zz, zz, (0, 0, 5, 0, 269), zz, (7, 0, 0, 0, 270), (2, 3, 0, 0, 271), (14, 0, 289, 0, 274)],
  [zz, zz, (0, 0, 10, 0, 276), zz, (0, 0, 6, 0, 278), zz, (22, 0, 285, 0, 281), zz, zz, (2, 1, 0, 0, 282), (4, 0, 327, 0, 285), zz, zz, (2, 0, 0, 0, 286), (4, 0, 327, 0, 289), zz],
  [zz, (0, 0, 0, 1, 290), (1, 0, 9, 6, 293), zz, zz, (0, 0, 5, 0, 295), zz, (7, 0, 0, 0, 296), (2, 1, 0, 0, 297), (14, 0, 315, 0, 300), zz, zz, (0, 0, 9, 0, 302), zz, (0, 0, 8, 0, 304), zz],
  [(14, 0, 311, 0, 307), zz, zz, (2, 1, 0, 0, 308), (4, 0, 327, 0, 311), zz, zz, (2, 0, 0, 0, 312), (4, 0, 327, 0, 315), zz, zz, (0, 0, 9, 0, 317), zz, (0, 0, 6, 0, 319), zz, (22, 0, 326, 0, 322)],
  [zz, zz, (2, 1, 0, 0, 323), (4, 0, 327, 0, 326), zz, zz, (2, 0, 0, 0, 327), (54, 0, 0, 0, 328)]]
def pg122 : List (List In) := pg122_0 ++ pg122_1
/-- X9_holds -/
def pg123 : List (List In) := [[(2, 0, 0, 0, 1), (10, 0, 5, 0, 3), zz, (0, 0, 0, 1, 4), (1, 0, 9, 4, 7), zz, zz, (2, 25, 0, 0, 9), zz, (0, 0, 1, 0, 10), (18, 0, 0, 0, 11), (0, 0, 2, 0, 12), (9, 0, 0, 0, 13), (7, 0, 0, 0, 14), (10, 0, 6, 0, 16), zz],
  [(0, 0, 6, 0, 18), zz, (0, 0, 0, 1, 19), (1, 0, 9, 5, 22), zz, zz, (2, 25, 0, 0, 24), zz, (0, 0, 1, 0, 25), (18, 0, 0, 0, 26), (0, 0, 2, 0, 27), (9, 0, 0, 0, 28), (7, 0, 0, 0, 29), (12, 0, 200, 0, 32), zz, zz],
  [(0, 0, 0, 1, 33), (1, 0, 9, 6, 36), zz, zz, (2, 64, 0, 0, 38), zz, (0, 0, 1, 0, 39), (18, 0, 0, 0, 40), (0, 0, 6, 0, 42), zz, (9, 0, 0, 0, 43), (7, 0, 0, 0, 44), (10, 0, 7, 0, 46), zz, (0, 0, 7, 0, 48), zz],
  [(2, 5, 0, 0, 49), (14, 0, 81, 0, 52), zz, zz, (0, 0, 0, 1, 53), (1, 0, 9, 40, 56), zz, zz, (0, 0, 5, 0, 58), zz, (2, 1, 0, 0, 59), (17, 0, 0, 0, 60), (0, 0, 0, 1, 61), (1, 0, 9, 40, 64), zz, zz],
  [(0, 0, 5, 0, 66), zz, (2, 1, 0, 0, 67), (17, 0, 0, 0, 68), (35, 0, 0, 0, 69), (11, 0, 76, 0, 72), zz, zz, (2, 1, 0, 0, 73), (4, 0, 77, 0, 76), zz, zz, (2, 0, 0, 0, 77), (34, 0, 0, 0, 78), (4, 0, 194, 0, 81), zz],
  [zz, (0, 0, 7, 0, 83), zz, (2, 6, 0, 0, 85), zz, (15, 0, 95, 0, 88), zz, zz, (0, 0, 7, 0, 90), zz, (2, 7, 0, 0, 92), zz, (14, 0, 174, 0, 95), zz, zz, (13, -1, 5, 0, 98)],
  [zz, zz, (0, 0, 0, 1, 99), (1, 0, 9, 40, 102), zz, zz, (0, 0, 5, 0, 104), zz, (2, 1, 0, 0, 105), (17, 0, 0, 0, 106), (0, 0, 7, 0, 108), zz, (2, 6, 0, 0, 110), zz, (14, 0, 143, 0, 113), zz],
  [zz, (0, 0, 0, 1, 114), (1, 0, 9, 40, 117), zz, zz, (0, 0, 5, 0, 119), zz, (2, 1, 0, 0, 120), (17, 0, 0, 0, 121), (35, 0, 0, 0, 122), (6, 0, 139, 0, 125), zz, zz, (0, 0, 0, 1, 126), (1, 0, 9, 40, 129), zz],
  [zz, (0, 0, 5, 0, 131), zz, (35, 0, 0, 0, 132), (6, 0, 139, 0, 135), zz, zz, (2, 1, 0, 0, 136), (4, 0, 170, 0, 139), zz, zz, (2, 0, 0, 0, 140), (4, 0, 170, 0, 143), zz, zz, (0, 0, 0, 1, 144)],
  [(1, 0, 9, 40, 147), zz, zz, (0, 0, 5, 0, 149), zz, (2, 1, 0, 0, 150), (17, 0, 0, 0, 151), (35, 0, 0, 0, 152), (11, 0, 165, 0, 155), zz, zz, (0, 0, 0, 1, 156), (1, 0, 9, 40, 159), zz, zz, (0, 0, 5, 0, 161)],
  [zz, (35, 0, 0, 0, 162), (6, 0, 169, 0, 165), zz, zz, (2, 1, 0, 0, 166), (4, 0, 170, 0, 169), zz, zz, (2, 0, 0, 0, 170), (34, 0, 0, 0, 171), (4, 0, 194, 0, 174), zz, zz, (0, 0, 0, 1, 175), (1, 0, 9, 40, 178)],
  [zz, zz, (0, 0, 5, 0, 180), zz, (0, 0, 0, 1, 181), (0, 0, 1, 0, 182), (0, 0, 6, 0, 184), zz, (0, 0, 3, 0, 185), (0, 0, 4, 0, 187), zz, (3, 0, 122, 85, 190), zz, zz, (34, 0, 0, 0, 191), (13, 1, 5, 0, 194)],
  [zz, zz, (13, 1, 6, 0, 197), zz, zz, (4, 0, 16, 0, 200), zz, zz, (0, 0, 5, 0, 202), zz, (6, 0, 214, 0, 205), zz, zz, (0, 0, 0, 1, 206), (1, 0, 9, 40, 209), zz],
  [zz, (2, 0, 0, 0, 210), (35, 0, 0, 0, 211), (6, 0, 218, 0, 214), zz, zz, (2, 1, 0, 0, 215), (4, 0, 219, 0, 218), zz, zz, (2, 0, 0, 0, 219), (54, 0, 0, 0, 220)]]
/-- X9_muchBy -/
def pg124 : List (List In) := [[(0, 0, 0, 1, 1), (1, 0, 9, 2, 4), zz, zz, (2, 25, 0, 0, 6), zz, (0, 0, 1, 0, 7), (18, 0, 0, 0, 8), (0, 0, 2, 0, 9), (9, 0, 0, 0, 10), (7, 0, 0, 0, 11), (10, 0, 4, 0, 13), zz, (0, 0, 0, 1, 14), (1, 0, 9, 3, 17), zz],
  [zz, (2, 25, 0, 0, 19), zz, (0, 0, 1, 0, 20), (18, 0, 0, 0, 21), (0, 0, 2, 0, 22), (9, 0, 0, 0, 23), (7, 0, 0, 0, 24), (10, 0, 5, 0, 26), zz, (0, 0, 4, 0, 28), zz, (11, 0, 34, 0, 31), zz, zz, (0, 0, 5, 0, 33)],
  [zz, (5, 0, 0, 0, 34), (0, 0, 4, 0, 36), zz, (2, 1, 0, 0, 37), (14, 0, 66, 0, 40), zz, zz, (0, 0, 5, 0, 42), zz, (0, 0, 1, 0, 43), (15, 0, 55, 0, 46), zz, zz, (0, 0, 5, 0, 48), zz],
  [(0, 0, 0, 1, 49), (1, 0, 9, 0, 52), zz, zz, (22, 0, 59, 0, 55), zz, zz, (2, 0, 0, 0, 56), (4, 0, 65, 0, 59), zz, zz, (0, 0, 3, 0, 60), (0, 0, 5, 0, 62), zz, (3, 0, 121, 2, 65), zz],
  [zz, (5, 0, 0, 0, 66), (2, -1, 0, 0, 67), (10, 0, 6, 0, 69), zz, (2, 0, 0, 0, 70), (10, 0, 7, 0, 72), zz, (0, 0, 7, 0, 74), zz, (0, 0, 0, 1, 75), (1, 0, 9, 0, 78), zz, zz, (12, 0, 150, 0, 81), zz],
  [zz, (0, 0, 3, 0, 82), (0, 0, 7, 0, 84), zz, (3, 0, 121, 2, 87), zz, zz, (10, 0, 8, 0, 89), zz, (0, 0, 6, 0, 91), zz, (36, 0, 117, 0, 94), zz, zz, (0, 0, 4, 0, 96), zz],
  [(2, 2, 0, 0, 97), (14, 0, 110, 0, 100), zz, zz, (0, 0, 8, 0, 102), zz, (0, 0, 6, 0, 104), zz, (12, 0, 121, 0, 107), zz, zz, (4, 0, 117, 0, 110), zz, zz, (0, 0, 8, 0, 112), zz],
  [(0, 0, 6, 0, 114), zz, (29, 0, 121, 0, 117), zz, zz, (2, 1, 0, 0, 118), (4, 0, 122, 0, 121), zz, zz, (2, 0, 0, 0, 122), (10, 0, 9, 0, 124), zz, (0, 0, 7, 0, 126), zz, (0, 0, 1, 0, 127), (15, 0, 140, 0, 130)],
  [zz, zz, (0, 0, 9, 0, 132), zz, (6, 0, 140, 0, 135), zz, zz, (0, 0, 8, 0, 137), zz, (4, 0, 142, 0, 140), zz, zz, (0, 0, 6, 0, 142), zz, (10, 0, 6, 0, 144), zz],
  [(13, 1, 7, 0, 147), zz, zz, (4, 0, 72, 0, 150), zz, zz, (0, 0, 6, 0, 152), zz, (32, 0, 159, 0, 155), zz, zz, (2, 0, 0, 0, 156), (4, 0, 161, 0, 159), zz, zz, (0, 0, 6, 0, 161)],
  [zz, (5, 0, 0, 0, 162)]]
/-- X9_letBy -/
def pg125 : List (List In) := [[(0, 0, 1, 0, 1), (0, 0, 0, 1, 2), (1, 0, 9, 35, 5), zz, zz, (14, 0, 13, 0, 8), zz, zz, (0, 0, 0, 1, 9), (1, 0, 9, 36, 12), zz, zz, (5, 0, 0, 0, 13), (2, 0, 0, 0, 14), (10, 0, 4, 0, 16), zz],
  [(0, 0, 4, 0, 18), zz, (0, 0, 0, 1, 19), (1, 0, 9, 1, 22), zz, zz, (0, 0, 1, 0, 23), (7, 0, 0, 0, 24), (12, 0, 54, 0, 27), zz, zz, (0, 0, 0, 1, 28), (0, 0, 1, 0, 29), (0, 0, 4, 0, 31), zz, (0, 0, 2, 0, 32)],
  [(0, 0, 3, 0, 33), (3, 0, 123, 85, 36), zz, zz, (6, 0, 48, 0, 39), zz, zz, (0, 0, 0, 1, 40), (0, 0, 1, 0, 41), (0, 0, 4, 0, 43), zz, (0, 0, 2, 0, 44), (3, 0, 124, 84, 47), zz, zz, (5, 0, 0, 0, 48)],
  [(13, 1, 4, 0, 51), zz, zz, (4, 0, 16, 0, 54), zz, zz, (2, 0, 0, 0, 55), (5, 0, 0, 0, 56)]]
/-- X9_lets -/
def pg126 : List (List In) := [[(0, 0, 0, 1, 1), (0, 0, 1, 0, 2), (3, 0, 96, 82, 5), zz, zz, (6, 0, 12, 0, 8), zz, zz, (2, -1001, 0, 0, 11), zz, zz, (5, 0, 0, 0, 12), (0, 0, 0, 1, 13), (0, 0, 2, 0, 14), (3, 0, 98, 82, 17), zz],
  [zz, (11, 0, 27, 0, 20), zz, zz, (0, 0, 3, 0, 21), (3, 0, 99, 1, 24), zz, zz, (11, 0, 33, 0, 27), zz, zz, (2, -1002, 0, 0, 30), zz, zz, (4, 0, 40, 0, 33), zz],
  [zz, (0, 0, 0, 1, 34), (0, 0, 1, 0, 35), (0, 0, 2, 0, 36), (0, 0, 3, 0, 37), (3, 0, 125, 84, 40), zz, zz, (5, 0, 0, 0, 41)]]
/-- X9_rulesAll -/
def pg127 : List (List In) := [[(2, 0, 0, 0, 1), (10, 0, 1, 0, 2), (2, 0, 0, 0, 3), (10, 0, 2, 0, 4), (0, 0, 2, 0, 5), (0, 0, 0, 1, 6), (1, 0, 9, 0, 9), zz, zz, (12, 0, 27, 0, 12), zz, zz, (0, 0, 1, 0, 13), (0, 0, 0, 1, 14), (1, 0, 9, 1, 17), zz],
  [zz, (0, 0, 2, 0, 18), (7, 0, 0, 0, 19), (9, 0, 0, 0, 20), (10, 0, 1, 0, 21), (13, 1, 2, 0, 24), zz, zz, (4, 0, 4, 0, 27), zz, zz, (0, 0, 1, 0, 28), (5, 0, 0, 0, 29)]]
/-- X9_growing -/
def pg128 : List (List In) := [[(2, 0, 0, 0, 1), (10, 0, 1, 0, 2), (2, 0, 0, 0, 3), (10, 0, 2, 0, 4), (0, 0, 2, 0, 5), (0, 0, 0, 1, 6), (1, 0, 9, 0, 9), zz, zz, (12, 0, 39, 0, 12), zz, zz, (0, 0, 1, 0, 13), (0, 0, 0, 1, 14), (0, 0, 2, 0, 15), (2, 9, 0, 0, 17)],
  [zz, (3, 0, 130, 83, 20), zz, zz, (11, 0, 27, 0, 23), zz, zz, (2, 1, 0, 0, 24), (4, 0, 28, 0, 27), zz, zz, (2, 0, 0, 0, 28), (3, 0, 93, 1, 31), zz, zz, (9, 0, 0, 0, 32)],
  [(10, 0, 1, 0, 33), (13, 1, 2, 0, 36), zz, zz, (4, 0, 4, 0, 39), zz, zz, (0, 0, 1, 0, 40), (5, 0, 0, 0, 41)]]
/-- X9_count -/
def pg129 : List (List In) := [[(0, 0, 1, 0, 1), (37, 0, 3, 52, 32), zz, zz, zz, zz, zz, zz, zz, zz, zz, zz, zz, zz, zz, zz],
  [zz, zz, zz, zz, zz, zz, zz, zz, zz, zz, zz, zz, zz, zz, zz, zz],
  [(0, 0, 0, 1, 33), (1, 0, 9, 0, 36), zz, zz, (5, 0, 0, 0, 37), (0, 0, 0, 1, 38), (1, 0, 9, 15, 41), zz, zz, (5, 0, 0, 0, 42), (0, 0, 0, 1, 43), (3, 0, 127, 81, 46), zz, zz, (5, 0, 0, 0, 47), (0, 0, 0, 1, 48)],
  [(3, 0, 128, 81, 51), zz, zz, (5, 0, 0, 0, 52), (2, -1002, 0, 0, 55), zz, zz, (5, 0, 0, 0, 56)]]
/-- X9_slips -/
def pg130 : List (List In) := [[(2, 0, 0, 0, 1), (10, 0, 3, 0, 2), (0, 0, 3, 0, 3), (0, 0, 0, 1, 4), (3, 0, 97, 81, 7), zz, zz, (12, 0, 111, 0, 10), zz, zz, (0, 0, 3, 0, 11), (0, 0, 1, 0, 12), (3, 0, 121, 2, 15), zz, zz, (11, 0, 28, 0, 18)],
  [zz, zz, (0, 0, 0, 1, 19), (0, 0, 1, 0, 20), (0, 0, 3, 0, 21), (0, 0, 2, 0, 22), (3, 0, 125, 84, 25), zz, zz, (4, 0, 29, 0, 28), zz, zz, (2, 0, 0, 0, 29), (10, 0, 4, 0, 31), zz, (2, 0, 0, 0, 32)],
  [(10, 0, 5, 0, 34), zz, (0, 0, 5, 0, 36), zz, (0, 0, 0, 1, 37), (1, 0, 9, 0, 40), zz, zz, (12, 0, 105, 0, 43), zz, zz, (0, 0, 3, 0, 44), (0, 0, 1, 0, 45), (3, 0, 121, 2, 48), zz, zz],
  [(11, 0, 105, 0, 51), zz, zz, (0, 0, 5, 0, 53), zz, (0, 0, 1, 0, 54), (15, 0, 99, 0, 57), zz, zz, (0, 0, 3, 0, 58), (0, 0, 5, 0, 60), zz, (3, 0, 121, 2, 63), zz, zz, (2, 3, 0, 0, 64)],
  [(12, 0, 99, 0, 67), zz, zz, (0, 0, 0, 1, 68), (0, 0, 1, 0, 69), (0, 0, 3, 0, 70), (2, 1, 0, 0, 71), (2, 2, 0, 0, 72), (0, 0, 5, 0, 74), zz, (18, 0, 0, 0, 75), (23, 0, 0, 0, 76), (9, 0, 0, 0, 77), (0, 0, 2, 0, 78), (3, 0, 125, 84, 81), zz],
  [zz, (0, 0, 4, 0, 83), zz, (12, 0, 99, 0, 86), zz, zz, (0, 0, 0, 1, 87), (0, 0, 3, 0, 88), (8, 0, 9, 41, 91), zz, zz, (0, 0, 0, 1, 92), (0, 0, 5, 0, 94), zz, (8, 0, 9, 42, 97), zz],
  [zz, (2, 1, 0, 0, 98), (54, 0, 0, 0, 99), (13, 1, 5, 0, 102), zz, zz, (4, 0, 34, 0, 105), zz, zz, (13, 1, 3, 0, 108), zz, zz, (4, 0, 2, 0, 111), zz, zz, (2, 0, 0, 0, 112)],
  [(54, 0, 0, 0, 113)]]
/-- X9_grows -/
def pg131 : List (List In) := [[(0, 0, 0, 1, 1), (0, 0, 1, 0, 2), (3, 0, 96, 82, 5), zz, zz, (6, 0, 12, 0, 8), zz, zz, (2, -1001, 0, 0, 11), zz, zz, (5, 0, 0, 0, 12), (0, 0, 2, 0, 13), (3, 0, 99, 1, 16), zz, zz],
  [(6, 0, 31, 0, 19), zz, zz, (0, 0, 3, 0, 20), (21, 0, 0, 0, 21), (24, -1, 1, 0, 24), zz, zz, (24, 1, 0, 0, 25), (3, 0, 92, 3, 28), zz, zz, (11, 0, 35, 0, 31), zz, zz, (2, -1002, 0, 0, 34)],
  [zz, zz, (5, 0, 0, 0, 35), (0, 0, 0, 1, 36), (0, 0, 1, 0, 37), (0, 0, 2, 0, 38), (3, 0, 130, 83, 41), zz, zz, (10, 0, 4, 0, 43), zz, (0, 0, 3, 0, 44), (2, -1, 0, 0, 45), (14, 0, 64, 0, 48), zz, zz],
  [(0, 0, 4, 0, 50), zz, (11, 0, 57, 0, 53), zz, zz, (2, 1, 0, 0, 54), (4, 0, 58, 0, 57), zz, zz, (2, 0, 0, 0, 58), (3, 0, 93, 1, 61), zz, zz, (4, 0, 88, 0, 64), zz, zz],
  [(0, 0, 4, 0, 66), zz, (11, 0, 73, 0, 69), zz, zz, (2, -1, 0, 0, 70), (4, 0, 88, 0, 73), zz, zz, (0, 0, 3, 0, 74), (11, 0, 84, 0, 77), zz, zz, (0, 0, 0, 1, 78), (1, 0, 9, 41, 81), zz],
  [zz, (4, 0, 88, 0, 84), zz, zz, (0, 0, 0, 1, 85), (1, 0, 9, 42, 88), zz, zz, (5, 0, 0, 0, 89)]]
/-- X9_notSo -/
def pg132 : List (List In) := [[(2, 0, 0, 0, 1), (10, 0, 4, 0, 3), zz, (0, 0, 4, 0, 5), zz, (0, 0, 0, 1, 6), (1, 0, 9, 0, 9), zz, zz, (12, 0, 47, 0, 12), zz, zz, (0, 0, 3, 0, 13), (0, 0, 4, 0, 15), zz, (30, 0, 0, 0, 16)],
  [(2, 1, 0, 0, 17), (25, 0, 0, 0, 18), (11, 0, 41, 0, 21), zz, zz, (0, 0, 1, 0, 22), (0, 0, 4, 0, 24), zz, (3, 0, 121, 2, 27), zz, zz, (0, 0, 0, 1, 28), (0, 0, 4, 0, 30), zz, (0, 0, 1, 0, 31), (0, 0, 2, 0, 32)],
  [(3, 0, 125, 84, 35), zz, zz, (15, 0, 41, 0, 38), zz, zz, (0, 0, 4, 0, 40), zz, (5, 0, 0, 0, 41), (13, 1, 4, 0, 44), zz, zz, (4, 0, 3, 0, 47), zz, zz, (2, -1, 0, 0, 48)],
  [(5, 0, 0, 0, 49)]]
/-- X9_judge -/
def pg133 : List (List In) := [[(0, 0, 0, 1, 1), (0, 0, 1, 0, 2), (3, 0, 98, 82, 5), zz, zz, (11, 0, 15, 0, 8), zz, zz, (0, 0, 2, 0, 9), (3, 0, 99, 1, 12), zz, zz, (11, 0, 21, 0, 15), zz, zz, (2, -1002, 0, 0, 18)],
  [zz, zz, (4, 0, 28, 0, 21), zz, zz, (0, 0, 0, 1, 22), (0, 0, 1, 0, 23), (0, 0, 2, 0, 24), (2, 0, 0, 0, 25), (3, 0, 132, 84, 28), zz, zz, (5, 0, 0, 0, 29)]]
/-- X9_mayBe -/
def pg134 : List (List In) := [[(2, 0, 0, 0, 1), (10, 0, 3, 0, 2), (2, 0, 0, 0, 3), (10, 0, 4, 0, 5), zz, (0, 0, 4, 0, 7), zz, (0, 0, 0, 1, 8), (3, 0, 97, 81, 11), zz, zz, (12, 0, 43, 0, 14), zz, zz, (0, 0, 0, 1, 15), (0, 0, 4, 0, 17)],
  [zz, (2, 9, 0, 0, 19), zz, (0, 0, 1, 0, 20), (3, 0, 132, 84, 23), zz, zz, (32, 0, 37, 0, 26), zz, zz, (0, 0, 3, 0, 27), (0, 0, 2, 0, 28), (14, 0, 34, 0, 31), zz, zz, (0, 0, 4, 0, 33)],
  [zz, (5, 0, 0, 0, 34), (13, 1, 3, 0, 37), zz, zz, (13, 1, 4, 0, 40), zz, zz, (4, 0, 5, 0, 43), zz, zz, (0, 0, 2, 0, 44), (2, -1, 0, 0, 45), (14, 0, 52, 0, 48), zz, zz],
  [(0, 0, 3, 0, 49), (4, 0, 53, 0, 52), zz, zz, (2, -1, 0, 0, 53), (5, 0, 0, 0, 54)]]
/-- X9_settled -/
def pg135 : List (List In) := [[(0, 0, 0, 1, 1), (2, 0, 0, 0, 2), (0, 0, 1, 0, 3), (3, 0, 134, 83, 6), zz, zz, (5, 0, 0, 0, 7)]]
/-- X9_sumOf -/
def pg136 : List (List In) := [[(2, 0, 0, 0, 1), (10, 0, 2, 0, 2), (2, 0, 0, 0, 3), (10, 0, 3, 0, 4), (0, 0, 3, 0, 5), (0, 0, 0, 1, 6), (1, 0, 9, 0, 9), zz, zz, (12, 0, 26, 0, 12), zz, zz, (0, 0, 2, 0, 13), (0, 0, 1, 0, 14), (0, 0, 3, 0, 15), (3, 0, 121, 2, 18)],
  [zz, zz, (9, 0, 0, 0, 19), (10, 0, 2, 0, 20), (13, 1, 3, 0, 23), zz, zz, (4, 0, 4, 0, 26), zz, zz, (0, 0, 2, 0, 27), (5, 0, 0, 0, 28)]]
/-- X9_end -/
def pg137 : List (List In) := [[(0, 0, 1, 0, 1), (21, 0, 0, 0, 2), (24, 0, 0, 0, 3), (24, 1, 0, 0, 4), (3, 0, 92, 3, 7), zz, zz, (11, 0, 14, 0, 10), zz, zz, (2, -1002, 0, 0, 13), zz, zz, (5, 0, 0, 0, 14), (2, -1, 0, 0, 15), (10, 0, 2, 0, 16)],
  [(2, 0, 0, 0, 17), (10, 0, 3, 0, 18), (0, 0, 3, 0, 19), (0, 0, 0, 1, 20), (3, 0, 97, 81, 23), zz, zz, (12, 0, 98, 0, 26), zz, zz, (0, 0, 0, 1, 27), (0, 0, 3, 0, 28), (2, 9, 0, 0, 30), zz, (2, 0, 0, 0, 31), (3, 0, 132, 84, 34)],
  [zz, zz, (32, 0, 92, 0, 37), zz, zz, (0, 0, 2, 0, 38), (36, 0, 74, 0, 41), zz, zz, (0, 0, 1, 0, 42), (11, 0, 61, 0, 45), zz, zz, (0, 0, 0, 1, 46), (0, 0, 3, 0, 47), (3, 0, 136, 82, 50)],
  [zz, zz, (0, 0, 0, 1, 51), (0, 0, 2, 0, 52), (3, 0, 136, 82, 55), zz, zz, (29, 0, 78, 0, 58), zz, zz, (4, 0, 74, 0, 61), zz, zz, (0, 0, 0, 1, 62), (0, 0, 3, 0, 63), (3, 0, 136, 82, 66)],
  [zz, zz, (0, 0, 0, 1, 67), (0, 0, 2, 0, 68), (3, 0, 136, 82, 71), zz, zz, (12, 0, 78, 0, 74), zz, zz, (2, 1, 0, 0, 75), (4, 0, 79, 0, 78), zz, zz, (2, 0, 0, 0, 79), (10, 0, 4, 0, 81)],
  [zz, (0, 0, 4, 0, 83), zz, (6, 0, 90, 0, 86), zz, zz, (0, 0, 3, 0, 87), (4, 0, 91, 0, 90), zz, zz, (0, 0, 2, 0, 91), (10, 0, 2, 0, 92), (13, 1, 3, 0, 95), zz, zz, (4, 0, 18, 0, 98)],
  [zz, zz, (0, 0, 2, 0, 99), (5, 0, 0, 0, 100)]]
/-- X9_nextRow -/
def pg138 : List (List In) := [[(0, 0, 2, 0, 1), (11, 0, 8, 0, 4), zz, zz, (2, 0, 0, 0, 5), (4, 0, 9, 0, 8), zz, zz, (0, 0, 1, 0, 9), (10, 0, 3, 0, 10), (2, 0, 0, 0, 11), (10, 0, 4, 0, 13), zz, (0, 0, 4, 0, 15), zz, (0, 0, 0, 1, 16)],
  [(1, 0, 9, 0, 19), zz, zz, (12, 0, 76, 0, 22), zz, zz, (0, 0, 2, 0, 23), (11, 0, 46, 0, 26), zz, zz, (0, 0, 3, 0, 27), (0, 0, 0, 1, 28), (0, 0, 4, 0, 30), zz, (0, 0, 1, 0, 31), (2, 9, 0, 0, 33)],
  [zz, (3, 0, 125, 84, 36), zz, zz, (2, 2, 0, 0, 37), (0, 0, 4, 0, 39), zz, (18, 0, 0, 0, 40), (23, 0, 0, 0, 41), (9, 0, 0, 0, 42), (10, 0, 3, 0, 43), (4, 0, 70, 0, 46), zz, zz, (0, 0, 3, 0, 47), (0, 0, 0, 1, 48)],
  [(0, 0, 4, 0, 50), zz, (0, 0, 3, 0, 51), (2, 9, 0, 0, 53), zz, (3, 0, 125, 84, 56), zz, zz, (0, 0, 3, 0, 57), (0, 0, 4, 0, 59), zz, (3, 0, 121, 2, 62), zz, zz, (17, 0, 0, 0, 63), (2, 2, 0, 0, 64)],
  [(0, 0, 4, 0, 66), zz, (18, 0, 0, 0, 67), (23, 0, 0, 0, 68), (9, 0, 0, 0, 69), (10, 0, 3, 0, 70), (13, 1, 4, 0, 73), zz, zz, (4, 0, 13, 0, 76), zz, zz, (0, 0, 3, 0, 77), (5, 0, 0, 0, 78)]]
/-- X9_goUp -/
def pg139 : List (List In) := [[(2, 0, 0, 0, 1), (10, 0, 3, 0, 2), (0, 0, 3, 0, 3), (0, 0, 0, 1, 4), (3, 0, 97, 81, 7), zz, zz, (12, 0, 23, 0, 10), zz, zz, (0, 0, 0, 1, 11), (1, 0, 9, 43, 14), zz, zz, (0, 0, 3, 0, 15), (2, -1, 0, 0, 16)],
  [(16, 0, 0, 0, 17), (13, 1, 3, 0, 20), zz, zz, (4, 0, 2, 0, 23), zz, zz, (0, 0, 1, 0, 24), (10, 0, 3, 0, 25), (2, 0, 0, 0, 26), (10, 0, 4, 0, 28), zz, (0, 0, 0, 1, 29), (1, 0, 9, 43, 32), zz, zz],
  [(0, 0, 3, 0, 33), (7, 0, 0, 0, 34), (32, 0, 58, 0, 37), zz, zz, (0, 0, 0, 1, 38), (1, 0, 9, 43, 41), zz, zz, (0, 0, 3, 0, 42), (0, 0, 4, 0, 44), zz, (16, 0, 0, 0, 45), (13, 1, 4, 0, 48), zz, zz],
  [(0, 0, 0, 1, 49), (0, 0, 3, 0, 50), (0, 0, 2, 0, 51), (3, 0, 138, 83, 54), zz, zz, (10, 0, 3, 0, 55), (4, 0, 28, 0, 58), zz, zz, (0, 0, 0, 1, 59), (0, 0, 0, 1, 60), (1, 0, 9, 43, 63), zz, zz, (0, 0, 3, 0, 64)],
  [(7, 0, 0, 0, 65), (8, 0, 9, 45, 68), zz, zz, (0, 0, 0, 1, 69), (0, 0, 4, 0, 71), zz, (0, 0, 0, 1, 72), (1, 0, 9, 45, 75), zz, zz, (17, 0, 0, 0, 76), (8, 0, 9, 46, 79), zz, zz, (0, 0, 0, 1, 80)],
  [(0, 0, 0, 1, 81), (1, 0, 9, 46, 84), zz, zz, (2, 1, 0, 0, 85), (14, 0, 92, 0, 88), zz, zz, (0, 0, 3, 0, 89), (4, 0, 93, 0, 92), zz, zz, (2, -1, 0, 0, 93), (8, 0, 9, 44, 96), zz, zz],
  [(19, 0, 0, 0, 97)]]
/-- X9_climb -/
def pg140 : List (List In) := [[(0, 0, 0, 1, 1), (0, 0, 1, 0, 2), (3, 0, 98, 82, 5), zz, zz, (11, 0, 30, 0, 8), zz, zz, (0, 0, 2, 0, 9), (21, 0, 0, 0, 10), (24, 0, 0, 0, 11), (24, 1, 0, 0, 12), (3, 0, 92, 3, 15), zz, zz, (6, 0, 30, 0, 18)],
  [zz, zz, (0, 0, 3, 0, 19), (21, 0, 0, 0, 20), (24, 0, 0, 0, 21), (24, 2, 1, 0, 24), zz, zz, (3, 0, 92, 3, 27), zz, zz, (11, 0, 34, 0, 30), zz, zz, (2, -1002, 0, 0, 33), zz],
  [zz, (5, 0, 0, 0, 34), (0, 0, 0, 1, 35), (0, 0, 1, 0, 36), (0, 0, 2, 0, 37), (3, 0, 139, 83, 40), zz, zz, (0, 0, 3, 0, 41), (11, 0, 51, 0, 44), zz, zz, (0, 0, 0, 1, 45), (1, 0, 9, 44, 48), zz, zz],
  [(4, 0, 67, 0, 51), zz, zz, (0, 0, 3, 0, 52), (2, 1, 0, 0, 53), (14, 0, 63, 0, 56), zz, zz, (0, 0, 0, 1, 57), (1, 0, 9, 45, 60), zz, zz, (4, 0, 67, 0, 63), zz, zz, (0, 0, 0, 1, 64)],
  [(1, 0, 9, 46, 67), zz, zz, (5, 0, 0, 0, 68)]]
/-- X9_hangs -/
def pg141 : List (List In) := [[(0, 0, 0, 1, 1), (0, 0, 1, 0, 2), (3, 0, 96, 82, 5), zz, zz, (6, 0, 12, 0, 8), zz, zz, (2, -1001, 0, 0, 11), zz, zz, (5, 0, 0, 0, 12), (0, 0, 0, 1, 13), (0, 0, 2, 0, 14), (3, 0, 98, 82, 17), zz],
  [zz, (6, 0, 24, 0, 20), zz, zz, (2, -1002, 0, 0, 23), zz, zz, (5, 0, 0, 0, 24), (0, 0, 0, 1, 25), (0, 0, 1, 0, 26), (0, 0, 2, 0, 27), (2, 9, 0, 0, 29), zz, (3, 0, 125, 84, 32), zz, zz],
  [(10, 0, 3, 0, 33), (2, 0, 0, 0, 34), (10, 0, 4, 0, 36), zz, (2, 0, 0, 0, 37), (10, 0, 5, 0, 39), zz, (0, 0, 5, 0, 41), zz, (0, 0, 0, 1, 42), (1, 0, 9, 0, 45), zz, zz, (12, 0, 119, 0, 48), zz, zz],
  [(2, 0, 0, 0, 49), (10, 0, 6, 0, 51), zz, (0, 0, 6, 0, 53), zz, (2, 4, 0, 0, 54), (12, 0, 113, 0, 57), zz, zz, (0, 0, 5, 0, 59), zz, (0, 0, 1, 0, 60), (15, 0, 113, 0, 63), zz, zz, (0, 0, 2, 0, 64)],
  [(0, 0, 6, 0, 66), zz, (0, 0, 2, 0, 67), (0, 0, 5, 0, 69), zz, (3, 0, 121, 2, 72), zz, zz, (17, 0, 0, 0, 73), (2, 2, 0, 0, 74), (0, 0, 5, 0, 76), zz, (18, 0, 0, 0, 77), (23, 0, 0, 0, 78), (9, 0, 0, 0, 79), (10, 0, 7, 0, 81)],
  [zz, (0, 0, 4, 0, 83), zz, (0, 0, 0, 1, 84), (0, 0, 1, 0, 85), (0, 0, 7, 0, 87), zz, (2, 9, 0, 0, 89), zz, (3, 0, 125, 84, 92), zz, zz, (0, 0, 3, 0, 93), (15, 0, 103, 0, 96), zz, zz],
  [(2, 1, 0, 0, 97), (0, 0, 5, 0, 99), zz, (23, 0, 0, 0, 100), (4, 0, 104, 0, 103), zz, zz, (2, 0, 0, 0, 104), (33, 0, 0, 0, 105), (10, 0, 4, 0, 107), zz, (13, 1, 6, 0, 110), zz, zz, (4, 0, 51, 0, 113), zz],
  [zz, (13, 1, 5, 0, 116), zz, zz, (4, 0, 39, 0, 119), zz, zz, (0, 0, 4, 0, 121), zz, (5, 0, 0, 0, 122)]]
/-- X9_leaving -/
def pg142 : List (List In) := [[(0, 0, 0, 1, 1), (0, 0, 1, 0, 2), (3, 0, 96, 82, 5), zz, zz, (6, 0, 12, 0, 8), zz, zz, (2, -1001, 0, 0, 11), zz, zz, (5, 0, 0, 0, 12), (0, 0, 0, 1, 13), (0, 0, 2, 0, 14), (3, 0, 98, 82, 17), zz],
  [zz, (6, 0, 24, 0, 20), zz, zz, (2, -1002, 0, 0, 23), zz, zz, (5, 0, 0, 0, 24), (0, 0, 0, 1, 25), (0, 0, 1, 0, 26), (8, 0, 9, 35, 29), zz, zz, (0, 0, 0, 1, 30), (2, 0, 0, 0, 31), (8, 0, 9, 36, 34)],
  [zz, zz, (0, 0, 0, 1, 35), (0, 0, 2, 0, 36), (2, 0, 0, 0, 37), (3, 0, 139, 83, 40), zz, zz, (0, 0, 0, 1, 41), (2, -1, 0, 0, 42), (8, 0, 9, 35, 45), zz, zz, (0, 0, 0, 1, 46), (1, 0, 9, 44, 49), zz],
  [zz, (32, 0, 56, 0, 52), zz, zz, (2, -1, 0, 0, 53), (4, 0, 73, 0, 56), zz, zz, (2, 100, 0, 0, 58), zz, (0, 0, 0, 1, 59), (0, 0, 2, 0, 60), (3, 0, 136, 82, 63), zz, zz, (9, 0, 0, 0, 64)],
  [(0, 0, 0, 1, 65), (0, 0, 0, 1, 66), (1, 0, 9, 44, 69), zz, zz, (3, 0, 136, 82, 72), zz, zz, (17, 0, 0, 0, 73), (5, 0, 0, 0, 74)]]
/-- X9_findSlots -/
def pg143 : List (List In) := [[(0, 0, 0, 1, 1), (2, 0, 0, 0, 2), (8, 0, 9, 49, 5), zz, zz, (0, 0, 0, 1, 6), (1, 0, 9, 5, 9), zz, zz, (2, 25, 0, 0, 11), zz, (0, 0, 1, 0, 12), (18, 0, 0, 0, 13), (0, 0, 0, 1, 14), (1, 0, 9, 1, 17), zz],
  [zz, (0, 0, 1, 0, 18), (7, 0, 0, 0, 19), (9, 0, 0, 0, 20), (2, 1, 0, 0, 21), (17, 0, 0, 0, 22), (7, 0, 0, 0, 23), (10, 0, 2, 0, 24), (2, 0, 0, 0, 25), (10, 0, 3, 0, 26), (0, 0, 3, 0, 27), (0, 0, 2, 0, 28), (12, 0, 159, 0, 31), zz, zz, (2, 64, 0, 0, 33)],
  [zz, (0, 0, 1, 0, 34), (18, 0, 0, 0, 35), (0, 0, 3, 0, 36), (9, 0, 0, 0, 37), (10, 0, 4, 0, 39), zz, (0, 0, 0, 1, 40), (1, 0, 9, 6, 43), zz, zz, (0, 0, 4, 0, 45), zz, (7, 0, 0, 0, 46), (2, 2, 0, 0, 47), (15, 0, 72, 0, 50)],
  [zz, zz, (0, 0, 0, 1, 51), (1, 0, 9, 6, 54), zz, zz, (0, 0, 4, 0, 56), zz, (7, 0, 0, 0, 57), (2, 3, 0, 0, 58), (15, 0, 72, 0, 61), zz, zz, (0, 0, 0, 1, 62), (1, 0, 9, 6, 65), zz],
  [zz, (0, 0, 4, 0, 67), zz, (7, 0, 0, 0, 68), (2, 4, 0, 0, 69), (14, 0, 102, 0, 72), zz, zz, (0, 0, 0, 1, 73), (1, 0, 9, 47, 76), zz, zz, (0, 0, 0, 1, 77), (1, 0, 9, 49, 80), zz, zz],
  [(0, 0, 3, 0, 81), (16, 0, 0, 0, 82), (0, 0, 0, 1, 83), (1, 0, 9, 48, 86), zz, zz, (0, 0, 0, 1, 87), (1, 0, 9, 49, 90), zz, zz, (2, 0, 0, 0, 91), (34, 0, 0, 0, 92), (0, 0, 0, 1, 93), (20, 0, 0, 0, 94), (1, 0, 9, 49, 97), zz],
  [zz, (2, 1, 0, 0, 98), (9, 0, 0, 0, 99), (8, 0, 9, 49, 102), zz, zz, (0, 0, 0, 1, 103), (1, 0, 9, 11, 106), zz, zz, (0, 0, 4, 0, 108), zz, (35, 0, 0, 0, 109), (6, 0, 153, 0, 112), zz, zz],
  [(0, 0, 0, 1, 113), (1, 0, 9, 6, 116), zz, zz, (0, 0, 4, 0, 118), zz, (7, 0, 0, 0, 119), (2, 2, 0, 0, 120), (27, 0, 153, 0, 123), zz, zz, (0, 0, 0, 1, 124), (1, 0, 9, 47, 127), zz, zz, (0, 0, 0, 1, 128)],
  [(1, 0, 9, 49, 131), zz, zz, (0, 0, 3, 0, 132), (16, 0, 0, 0, 133), (0, 0, 0, 1, 134), (1, 0, 9, 48, 137), zz, zz, (0, 0, 0, 1, 138), (1, 0, 9, 49, 141), zz, zz, (2, 1, 0, 0, 142), (34, 0, 0, 0, 143), (0, 0, 0, 1, 144)],
  [(20, 0, 0, 0, 145), (1, 0, 9, 49, 148), zz, zz, (2, 1, 0, 0, 149), (9, 0, 0, 0, 150), (8, 0, 9, 49, 153), zz, zz, (13, 1, 3, 0, 156), zz, zz, (4, 0, 26, 0, 159), zz, zz, (19, 0, 0, 0, 160)]]
/-- X9_soften -/
def pg144 : List (List In) := [[(0, 0, 0, 1, 1), (1, 0, 9, 47, 4), zz, zz, (0, 0, 2, 0, 5), (7, 0, 0, 0, 6), (10, 0, 4, 0, 8), zz, (2, 64, 0, 0, 10), zz, (0, 0, 1, 0, 11), (18, 0, 0, 0, 12), (0, 0, 4, 0, 14), zz, (9, 0, 0, 0, 15), (10, 0, 5, 0, 17)],
  [zz, (0, 0, 0, 1, 18), (1, 0, 9, 48, 21), zz, zz, (0, 0, 2, 0, 22), (35, 0, 0, 0, 23), (6, 0, 61, 0, 26), zz, zz, (0, 0, 0, 1, 27), (1, 0, 9, 39, 30), zz, zz, (0, 0, 4, 0, 32), zz],
  [(39, 0, 0, 0, 33), (7, 0, 0, 0, 34), (0, 0, 3, 0, 35), (9, 0, 0, 0, 36), (16, 0, 0, 0, 37), (0, 0, 0, 1, 38), (1, 0, 9, 10, 41), zz, zz, (0, 0, 5, 0, 43), zz, (7, 0, 0, 0, 44), (0, 0, 0, 1, 45), (1, 0, 9, 39, 48), zz, zz],
  [(0, 0, 4, 0, 50), zz, (7, 0, 0, 0, 51), (17, 0, 0, 0, 52), (36, 0, 59, 0, 55), zz, zz, (2, 1, 0, 0, 56), (4, 0, 60, 0, 59), zz, zz, (2, 0, 0, 0, 60), (54, 0, 0, 0, 61), (0, 0, 0, 1, 62), (1, 0, 9, 38, 65), zz],
  [zz, (0, 0, 4, 0, 67), zz, (39, 0, 0, 0, 68), (7, 0, 0, 0, 69), (0, 0, 3, 0, 70), (9, 0, 0, 0, 71), (16, 0, 0, 0, 72), (0, 0, 0, 1, 73), (1, 0, 9, 9, 76), zz, zz, (0, 0, 5, 0, 78), zz, (7, 0, 0, 0, 79), (0, 0, 0, 1, 80)],
  [(1, 0, 9, 38, 83), zz, zz, (0, 0, 4, 0, 85), zz, (7, 0, 0, 0, 86), (17, 0, 0, 0, 87), (0, 0, 0, 1, 88), (1, 0, 9, 6, 91), zz, zz, (0, 0, 5, 0, 93), zz, (7, 0, 0, 0, 94), (2, 4, 0, 0, 95), (14, 0, 102, 0, 98)],
  [zz, zz, (2, 1, 0, 0, 99), (4, 0, 103, 0, 102), zz, zz, (2, 0, 0, 0, 103), (3, 0, 93, 1, 106), zz, zz, (22, 0, 113, 0, 109), zz, zz, (2, 1, 0, 0, 110), (4, 0, 114, 0, 113), zz],
  [zz, (2, 0, 0, 0, 114), (54, 0, 0, 0, 115)]]
/-- X9_isLet -/
def pg145 : List (List In) := [[(0, 0, 0, 1, 1), (0, 0, 1, 0, 2), (0, 0, 2, 0, 3), (2, 9, 0, 0, 5), zz, (3, 0, 125, 84, 8), zz, zz, (0, 0, 2, 0, 9), (0, 0, 1, 0, 10), (3, 0, 121, 2, 13), zz, zz, (14, 0, 20, 0, 16), zz, zz],
  [(2, 1, 0, 0, 17), (4, 0, 21, 0, 20), zz, zz, (2, 0, 0, 0, 21), (54, 0, 0, 0, 22)]]
/-- X9_doesSoft -/
def pg146 : List (List In) := [[(2, 0, 0, 0, 1), (10, 0, 4, 0, 3), zz, (2, 0, 0, 0, 4), (10, 0, 5, 0, 6), zz, (0, 0, 5, 0, 8), zz, (0, 0, 0, 1, 9), (1, 0, 9, 49, 12), zz, zz, (12, 0, 223, 0, 15), zz, zz, (0, 0, 4, 0, 17)],
  [zz, (11, 0, 223, 0, 20), zz, zz, (0, 0, 0, 1, 21), (0, 0, 1, 0, 22), (0, 0, 5, 0, 24), zz, (2, 1, 0, 0, 25), (3, 0, 144, 84, 28), zz, zz, (10, 0, 6, 0, 30), zz, (0, 0, 3, 0, 31), (2, 1, 0, 0, 32)],
  [(14, 0, 56, 0, 35), zz, zz, (0, 0, 6, 0, 37), zz, (6, 0, 53, 0, 40), zz, zz, (0, 0, 0, 1, 41), (0, 0, 1, 0, 42), (0, 0, 2, 0, 43), (3, 0, 145, 83, 46), zz, zz, (6, 0, 53, 0, 49), zz],
  [zz, (2, 1, 0, 0, 50), (4, 0, 54, 0, 53), zz, zz, (2, 0, 0, 0, 54), (10, 0, 4, 0, 56), zz, (0, 0, 5, 0, 58), zz, (10, 0, 7, 0, 60), zz, (0, 0, 7, 0, 62), zz, (0, 0, 0, 1, 63), (1, 0, 9, 49, 66)],
  [zz, zz, (12, 0, 207, 0, 69), zz, zz, (0, 0, 3, 0, 70), (2, 1, 0, 0, 71), (29, 0, 207, 0, 74), zz, zz, (0, 0, 6, 0, 76), zz, (6, 0, 207, 0, 79), zz, zz, (0, 0, 4, 0, 81)],
  [zz, (11, 0, 207, 0, 84), zz, zz, (0, 0, 0, 1, 85), (0, 0, 1, 0, 86), (0, 0, 7, 0, 88), zz, (2, 1, 0, 0, 89), (3, 0, 144, 84, 92), zz, zz, (10, 0, 8, 0, 94), zz, (0, 0, 3, 0, 95), (2, 2, 0, 0, 96)],
  [(14, 0, 120, 0, 99), zz, zz, (0, 0, 8, 0, 101), zz, (6, 0, 117, 0, 104), zz, zz, (0, 0, 0, 1, 105), (0, 0, 1, 0, 106), (0, 0, 2, 0, 107), (3, 0, 145, 83, 110), zz, zz, (6, 0, 117, 0, 113), zz],
  [zz, (2, 1, 0, 0, 114), (4, 0, 118, 0, 117), zz, zz, (2, 0, 0, 0, 118), (10, 0, 4, 0, 120), zz, (0, 0, 7, 0, 122), zz, (10, 0, 9, 0, 124), zz, (0, 0, 9, 0, 126), zz, (0, 0, 0, 1, 127), (1, 0, 9, 49, 130)],
  [zz, zz, (12, 0, 191, 0, 133), zz, zz, (0, 0, 3, 0, 134), (2, 2, 0, 0, 135), (29, 0, 191, 0, 138), zz, zz, (0, 0, 8, 0, 140), zz, (6, 0, 191, 0, 143), zz, zz, (0, 0, 4, 0, 145)],
  [zz, (11, 0, 191, 0, 148), zz, zz, (0, 0, 0, 1, 149), (0, 0, 1, 0, 150), (0, 0, 9, 0, 152), zz, (2, 1, 0, 0, 153), (3, 0, 144, 84, 156), zz, zz, (6, 0, 172, 0, 159), zz, zz, (0, 0, 0, 1, 160)],
  [(0, 0, 1, 0, 161), (0, 0, 2, 0, 162), (3, 0, 145, 83, 165), zz, zz, (6, 0, 172, 0, 168), zz, zz, (2, 1, 0, 0, 169), (4, 0, 173, 0, 172), zz, zz, (2, 0, 0, 0, 173), (10, 0, 4, 0, 175), zz, (0, 0, 0, 1, 176)],
  [(0, 0, 1, 0, 177), (0, 0, 9, 0, 179), zz, (2, -1, 0, 0, 180), (3, 0, 144, 84, 183), zz, zz, (10, 0, 10, 0, 185), zz, (13, 1, 9, 0, 188), zz, zz, (4, 0, 124, 0, 191), zz, zz, (0, 0, 0, 1, 192)],
  [(0, 0, 1, 0, 193), (0, 0, 7, 0, 195), zz, (2, -1, 0, 0, 196), (3, 0, 144, 84, 199), zz, zz, (10, 0, 9, 0, 201), zz, (13, 1, 7, 0, 204), zz, zz, (4, 0, 60, 0, 207), zz, zz, (0, 0, 0, 1, 208)],
  [(0, 0, 1, 0, 209), (0, 0, 5, 0, 211), zz, (2, -1, 0, 0, 212), (3, 0, 144, 84, 215), zz, zz, (10, 0, 7, 0, 217), zz, (13, 1, 5, 0, 220), zz, zz, (4, 0, 6, 0, 223), zz, zz, (0, 0, 4, 0, 225)],
  [zz, (54, 0, 0, 0, 226)]]
/-- X9_softBy -/
def pg147 : List (List In) := [[(0, 0, 0, 1, 1), (0, 0, 1, 0, 2), (0, 0, 2, 0, 3), (3, 0, 145, 83, 6), zz, zz, (6, 0, 11, 0, 9), zz, zz, (2, 0, 0, 0, 10), (5, 0, 0, 0, 11), (0, 0, 0, 1, 12), (0, 0, 1, 0, 13), (3, 0, 143, 82, 16), zz, zz],
  [(2, 0, 0, 0, 17), (10, 0, 3, 0, 18), (0, 0, 3, 0, 19), (2, 64, 0, 0, 21), zz, (12, 0, 44, 0, 24), zz, zz, (0, 0, 0, 1, 25), (1, 0, 9, 38, 28), zz, zz, (0, 0, 3, 0, 29), (2, 0, 0, 0, 30), (16, 0, 0, 0, 31), (0, 0, 0, 1, 32)],
  [(1, 0, 9, 39, 35), zz, zz, (0, 0, 3, 0, 36), (2, 0, 0, 0, 37), (16, 0, 0, 0, 38), (13, 1, 3, 0, 41), zz, zz, (4, 0, 18, 0, 44), zz, zz, (0, 0, 0, 1, 45), (0, 0, 1, 0, 46), (8, 0, 9, 37, 49), zz],
  [zz, (2, -1, 0, 0, 50), (10, 0, 3, 0, 51), (2, 1, 0, 0, 52), (10, 0, 4, 0, 54), zz, (0, 0, 4, 0, 56), zz, (2, 4, 0, 0, 57), (12, 0, 88, 0, 60), zz, zz, (0, 0, 3, 0, 61), (32, 0, 88, 0, 64), zz, zz],
  [(0, 0, 0, 1, 65), (0, 0, 1, 0, 66), (0, 0, 2, 0, 67), (0, 0, 4, 0, 69), zz, (3, 0, 146, 84, 72), zz, zz, (6, 0, 80, 0, 75), zz, zz, (0, 0, 4, 0, 77), zz, (4, 0, 81, 0, 80), zz, zz],
  [(2, -1, 0, 0, 81), (10, 0, 3, 0, 82), (13, 1, 4, 0, 85), zz, zz, (4, 0, 54, 0, 88), zz, zz, (0, 0, 0, 1, 89), (2, -1, 0, 0, 90), (8, 0, 9, 37, 93), zz, zz, (0, 0, 3, 0, 94), (5, 0, 0, 0, 95)]]
/-- X9_soft -/
def pg148 : List (List In) := [[(0, 0, 1, 0, 1), (2, -1, 0, 0, 2), (15, 0, 17, 0, 5), zz, zz, (0, 0, 0, 1, 6), (0, 0, 1, 0, 7), (3, 0, 96, 82, 10), zz, zz, (6, 0, 17, 0, 13), zz, zz, (2, -1001, 0, 0, 16), zz, zz],
  [(5, 0, 0, 0, 17), (0, 0, 0, 1, 18), (0, 0, 2, 0, 19), (3, 0, 98, 82, 22), zz, zz, (6, 0, 29, 0, 25), zz, zz, (2, -1002, 0, 0, 28), zz, zz, (5, 0, 0, 0, 29), (0, 0, 1, 0, 30), (2, -1, 0, 0, 31), (15, 0, 41, 0, 34)],
  [zz, zz, (0, 0, 0, 1, 35), (0, 0, 1, 0, 36), (0, 0, 2, 0, 37), (3, 0, 147, 83, 40), zz, zz, (5, 0, 0, 0, 41), (2, 0, 0, 0, 42), (10, 0, 3, 0, 43), (2, 0, 0, 0, 44), (10, 0, 4, 0, 46), zz, (0, 0, 4, 0, 48), zz],
  [(0, 0, 0, 1, 49), (1, 0, 9, 0, 52), zz, zz, (12, 0, 82, 0, 55), zz, zz, (0, 0, 0, 1, 56), (0, 0, 4, 0, 58), zz, (0, 0, 2, 0, 59), (3, 0, 147, 83, 62), zz, zz, (10, 0, 5, 0, 64), zz],
  [(0, 0, 5, 0, 66), zz, (32, 0, 71, 0, 69), zz, zz, (2, -1, 0, 0, 70), (5, 0, 0, 0, 71), (0, 0, 3, 0, 72), (0, 0, 5, 0, 74), zz, (9, 0, 0, 0, 75), (10, 0, 3, 0, 76), (13, 1, 4, 0, 79), zz, zz, (4, 0, 46, 0, 82)],
  [zz, zz, (0, 0, 3, 0, 83), (5, 0, 0, 0, 84)]]
/-- X9_rowBy -/
def pg149 : List (List In) := [[(2, 0, 0, 0, 1), (10, 0, 2, 0, 2), (2, 1, 0, 0, 3), (10, 0, 3, 0, 4), (0, 0, 3, 0, 5), (0, 0, 1, 0, 6), (27, 0, 81, 0, 9), zz, zz, (2, 0, 0, 0, 10), (10, 0, 4, 0, 12), zz, (2, 0, 0, 0, 13), (10, 0, 5, 0, 15), zz, (0, 0, 5, 0, 17)],
  [zz, (0, 0, 0, 1, 18), (1, 0, 9, 0, 21), zz, zz, (12, 0, 72, 0, 24), zz, zz, (0, 0, 0, 1, 25), (0, 0, 5, 0, 27), zz, (0, 0, 2, 0, 28), (0, 0, 3, 0, 29), (3, 0, 125, 84, 32), zz, zz],
  [(10, 0, 6, 0, 34), zz, (0, 0, 4, 0, 36), zz, (0, 0, 6, 0, 38), zz, (0, 0, 2, 0, 39), (0, 0, 5, 0, 41), zz, (3, 0, 121, 2, 44), zz, zz, (29, 0, 52, 0, 47), zz, zz, (0, 0, 6, 0, 49)],
  [zz, (4, 0, 58, 0, 52), zz, zz, (0, 0, 2, 0, 53), (0, 0, 5, 0, 55), zz, (3, 0, 121, 2, 58), zz, zz, (2, 2, 0, 0, 59), (0, 0, 5, 0, 61), zz, (18, 0, 0, 0, 62), (23, 0, 0, 0, 63), (9, 0, 0, 0, 64)],
  [(10, 0, 4, 0, 66), zz, (13, 1, 5, 0, 69), zz, zz, (4, 0, 15, 0, 72), zz, zz, (0, 0, 4, 0, 74), zz, (10, 0, 2, 0, 75), (13, 1, 3, 0, 78), zz, zz, (4, 0, 4, 0, 81), zz],
  [zz, (0, 0, 2, 0, 82), (5, 0, 0, 0, 83)]]
/-- X9_byDay -/
def pg150 : List (List In) := [[(0, 0, 1, 0, 1), (21, 0, 0, 0, 2), (24, 0, 0, 0, 3), (24, 9, 1, 0, 6), zz, zz, (3, 0, 92, 3, 9), zz, zz, (6, 0, 20, 0, 12), zz, zz, (0, 0, 0, 1, 13), (0, 0, 1, 0, 14), (3, 0, 149, 82, 17), zz],
  [zz, (4, 0, 23, 0, 20), zz, zz, (2, -1002, 0, 0, 23), zz, zz, (5, 0, 0, 0, 24)]]
/-- X9_dares -/
def pg151 : List (List In) := [[(0, 0, 0, 1, 1), (0, 0, 1, 0, 2), (3, 0, 96, 82, 5), zz, zz, (6, 0, 12, 0, 8), zz, zz, (2, -1001, 0, 0, 11), zz, zz, (5, 0, 0, 0, 12), (2, 1, 0, 0, 13), (10, 0, 2, 0, 14), (0, 0, 2, 0, 15), (2, 9, 0, 0, 17)],
  [zz, (27, 0, 40, 0, 20), zz, zz, (0, 0, 0, 1, 21), (0, 0, 2, 0, 22), (3, 0, 149, 82, 25), zz, zz, (0, 0, 1, 0, 26), (3, 0, 121, 2, 29), zz, zz, (31, 0, 34, 0, 32), zz, zz],
  [(0, 0, 2, 0, 33), (5, 0, 0, 0, 34), (13, 1, 2, 0, 37), zz, zz, (4, 0, 14, 0, 40), zz, zz, (2, -1, 0, 0, 41), (5, 0, 0, 0, 42)]]
/-- X9_offer -/
def pg152 : List (List In) := [[(0, 0, 0, 1, 1), (0, 0, 1, 0, 2), (3, 0, 96, 82, 5), zz, zz, (6, 0, 12, 0, 8), zz, zz, (2, -1001, 0, 0, 11), zz, zz, (5, 0, 0, 0, 12), (0, 0, 2, 0, 13), (21, 0, 0, 0, 14), (24, 0, 0, 0, 15), (24, 1, 0, 0, 16)],
  [(3, 0, 92, 3, 19), zz, zz, (6, 0, 34, 0, 22), zz, zz, (0, 0, 3, 0, 23), (21, 0, 0, 0, 24), (24, 0, 0, 0, 25), (24, 99, 1, 0, 28), zz, zz, (3, 0, 92, 3, 31), zz, zz, (11, 0, 38, 0, 34)],
  [zz, zz, (2, -1002, 0, 0, 37), zz, zz, (5, 0, 0, 0, 38), (0, 0, 2, 0, 39), (11, 0, 51, 0, 42), zz, zz, (0, 0, 0, 1, 43), (1, 0, 9, 12, 46), zz, zz, (0, 0, 1, 0, 47), (7, 0, 0, 0, 48)],
  [(4, 0, 57, 0, 51), zz, zz, (0, 0, 0, 1, 52), (1, 0, 9, 13, 55), zz, zz, (0, 0, 1, 0, 56), (7, 0, 0, 0, 57), (10, 0, 4, 0, 59), zz, (0, 0, 2, 0, 60), (11, 0, 73, 0, 63), zz, zz, (0, 0, 0, 1, 64)],
  [(1, 0, 9, 12, 67), zz, zz, (0, 0, 1, 0, 68), (0, 0, 3, 0, 69), (16, 0, 0, 0, 70), (4, 0, 80, 0, 73), zz, zz, (0, 0, 0, 1, 74), (1, 0, 9, 13, 77), zz, zz, (0, 0, 1, 0, 78), (0, 0, 3, 0, 79), (16, 0, 0, 0, 80)],
  [(0, 0, 4, 0, 82), zz, (5, 0, 0, 0, 83)]]
/-- X9_comes -/
def pg153 : List (List In) := [[(2, 0, 0, 0, 1), (10, 0, 3, 0, 2), (2, 0, 0, 0, 3), (10, 0, 4, 0, 5), zz, (0, 0, 4, 0, 7), zz, (0, 0, 0, 1, 8), (1, 0, 9, 0, 11), zz, zz, (12, 0, 37, 0, 14), zz, zz, (0, 0, 3, 0, 15), (0, 0, 1, 0, 16)],
  [(0, 0, 4, 0, 18), zz, (30, 0, 0, 0, 19), (2, 1, 0, 0, 20), (25, 0, 0, 0, 21), (0, 0, 0, 1, 22), (1, 0, 9, 12, 25), zz, zz, (0, 0, 4, 0, 27), zz, (7, 0, 0, 0, 28), (18, 0, 0, 0, 29), (9, 0, 0, 0, 30), (10, 0, 3, 0, 31), (13, 1, 4, 0, 34)],
  [zz, zz, (4, 0, 5, 0, 37), zz, zz, (0, 0, 3, 0, 38), (0, 0, 2, 0, 39), (22, 0, 46, 0, 42), zz, zz, (2, 1, 0, 0, 43), (4, 0, 47, 0, 46), zz, zz, (2, 0, 0, 0, 47), (54, 0, 0, 0, 48)]]
/-- X9_hasBy -/
def pg154 : List (List In) := [[(0, 0, 2, 0, 1), (0, 0, 1, 0, 2), (30, 0, 0, 0, 3), (2, 1, 0, 0, 4), (25, 0, 0, 0, 5), (2, 1, 0, 0, 6), (14, 0, 13, 0, 9), zz, zz, (2, 1, 0, 0, 10), (4, 0, 14, 0, 13), zz, zz, (2, 0, 0, 0, 14), (10, 0, 5, 0, 16), zz],
  [(0, 0, 0, 1, 17), (0, 0, 2, 0, 18), (0, 0, 3, 0, 19), (3, 0, 153, 83, 22), zz, zz, (6, 0, 50, 0, 25), zz, zz, (0, 0, 0, 1, 26), (1, 0, 9, 13, 29), zz, zz, (0, 0, 1, 0, 30), (7, 0, 0, 0, 31), (0, 0, 5, 0, 33)],
  [zz, (6, 0, 45, 0, 36), zz, zz, (0, 0, 0, 1, 37), (1, 0, 9, 12, 40), zz, zz, (0, 0, 1, 0, 41), (7, 0, 0, 0, 42), (4, 0, 46, 0, 45), zz, zz, (2, 0, 0, 0, 46), (17, 0, 0, 0, 47), (4, 0, 61, 0, 50)],
  [zz, zz, (0, 0, 5, 0, 52), zz, (6, 0, 60, 0, 55), zz, zz, (0, 0, 4, 0, 57), zz, (4, 0, 61, 0, 60), zz, zz, (2, 0, 0, 0, 61), (5, 0, 0, 0, 62)]]
/-- X9_isResting -/
def pg155 : List (List In) := [[(2, 1, 0, 0, 1), (10, 0, 4, 0, 3), zz, (2, 0, 0, 0, 4), (10, 0, 5, 0, 6), zz, (0, 0, 5, 0, 8), zz, (0, 0, 0, 1, 9), (1, 0, 9, 0, 12), zz, zz, (12, 0, 59, 0, 15), zz, zz, (0, 0, 4, 0, 17)],
  [zz, (6, 0, 59, 0, 20), zz, zz, (0, 0, 0, 1, 21), (0, 0, 5, 0, 23), zz, (0, 0, 1, 0, 24), (2, 1, 0, 0, 25), (0, 0, 5, 0, 27), zz, (23, 0, 0, 0, 28), (38, 0, 0, 0, 29), (0, 0, 2, 0, 30), (0, 0, 3, 0, 31), (3, 0, 154, 85, 34)],
  [zz, zz, (0, 0, 0, 1, 35), (0, 0, 5, 0, 37), zz, (0, 0, 1, 0, 38), (0, 0, 2, 0, 39), (0, 0, 3, 0, 40), (3, 0, 154, 85, 43), zz, zz, (27, 0, 50, 0, 46), zz, zz, (2, 1, 0, 0, 47), (4, 0, 51, 0, 50)],
  [zz, zz, (2, 0, 0, 0, 51), (10, 0, 4, 0, 53), zz, (13, 1, 5, 0, 56), zz, zz, (4, 0, 6, 0, 59), zz, zz, (0, 0, 4, 0, 61), zz, (54, 0, 0, 0, 62)]]
/-- X9_isGoal -/
def pg156 : List (List In) := [[(0, 0, 0, 0, 1), (21, 0, 0, 0, 2), (24, 1, 0, 0, 3), (24, 500, 1, 0, 6), zz, zz, (3, 0, 92, 3, 9), zz, zz, (54, 0, 0, 0, 10)]]
/-- X9_rests -/
def pg157 : List (List In) := [[(0, 0, 1, 0, 1), (21, 0, 0, 0, 2), (24, 0, 0, 0, 3), (2, 1, 0, 0, 4), (0, 0, 0, 1, 5), (1, 0, 9, 0, 8), zz, zz, (23, 0, 0, 0, 9), (2, 1, 0, 0, 10), (17, 0, 0, 0, 11), (21, 0, 0, 0, 12), (3, 0, 92, 3, 15), zz, zz, (11, 0, 22, 0, 18)],
  [zz, zz, (2, -1001, 0, 0, 21), zz, zz, (5, 0, 0, 0, 22), (0, 0, 2, 0, 23), (3, 0, 156, 1, 26), zz, zz, (6, 0, 41, 0, 29), zz, zz, (0, 0, 3, 0, 30), (21, 0, 0, 0, 31), (24, 0, 0, 0, 32)],
  [(24, 99, 1, 0, 35), zz, zz, (3, 0, 92, 3, 38), zz, zz, (11, 0, 47, 0, 41), zz, zz, (2, -1002, 0, 0, 44), zz, zz, (4, 0, 57, 0, 47), zz, zz, (0, 0, 0, 1, 48)],
  [(0, 0, 1, 0, 49), (0, 0, 2, 0, 50), (0, 0, 3, 0, 51), (3, 0, 155, 84, 54), zz, zz, (3, 0, 93, 1, 57), zz, zz, (5, 0, 0, 0, 58)]]
/-- X9_leastTop -/
def pg158 : List (List In) := [[(0, 0, 1, 0, 1), (3, 0, 156, 1, 4), zz, zz, (11, 0, 11, 0, 7), zz, zz, (2, -1002, 0, 0, 10), zz, zz, (5, 0, 0, 0, 11), (2, 0, 0, 0, 12), (10, 0, 2, 0, 13), (0, 0, 2, 0, 14), (2, 100, 0, 0, 16), zz],
  [(12, 0, 96, 0, 19), zz, zz, (2, 0, 0, 0, 20), (10, 0, 3, 0, 21), (2, 1, 0, 0, 22), (10, 0, 4, 0, 24), zz, (2, 0, 0, 0, 25), (10, 0, 5, 0, 27), zz, (0, 0, 5, 0, 29), zz, (2, 1, 0, 0, 30), (0, 0, 0, 1, 31), (1, 0, 9, 0, 34)],
  [zz, zz, (23, 0, 0, 0, 35), (12, 0, 79, 0, 38), zz, zz, (0, 0, 0, 1, 39), (0, 0, 5, 0, 41), zz, (0, 0, 1, 0, 42), (0, 0, 2, 0, 43), (3, 0, 155, 84, 46), zz, zz, (6, 0, 73, 0, 49), zz],
  [zz, (2, 1, 0, 0, 50), (10, 0, 3, 0, 51), (0, 0, 4, 0, 53), zz, (6, 0, 70, 0, 56), zz, zz, (0, 0, 0, 1, 57), (0, 0, 5, 0, 59), zz, (0, 0, 1, 0, 60), (3, 0, 153, 83, 63), zz, zz, (6, 0, 70, 0, 66)],
  [zz, zz, (2, 1, 0, 0, 67), (4, 0, 71, 0, 70), zz, zz, (2, 0, 0, 0, 71), (10, 0, 4, 0, 73), zz, (13, 1, 5, 0, 76), zz, zz, (4, 0, 27, 0, 79), zz, zz, (0, 0, 3, 0, 80)],
  [(6, 0, 90, 0, 83), zz, zz, (0, 0, 4, 0, 85), zz, (6, 0, 90, 0, 88), zz, zz, (0, 0, 2, 0, 89), (5, 0, 0, 0, 90), (13, 1, 2, 0, 93), zz, zz, (4, 0, 13, 0, 96), zz, zz],
  [(2, -1, 0, 0, 97), (5, 0, 0, 0, 98)]]
/-- X9_hasByWord -/
def pg159 : List (List In) := [[(0, 0, 0, 1, 1), (0, 0, 2, 0, 2), (2, 4, 0, 0, 3), (12, 0, 10, 0, 6), zz, zz, (0, 0, 1, 0, 7), (4, 0, 11, 0, 10), zz, zz, (2, -1, 0, 0, 11), (8, 0, 9, 35, 14), zz, zz, (0, 0, 0, 1, 15), (0, 0, 2, 0, 16)],
  [(8, 0, 9, 36, 19), zz, zz, (0, 0, 0, 1, 20), (0, 0, 0, 1, 21), (3, 0, 97, 81, 24), zz, zz, (2, 1, 0, 0, 25), (17, 0, 0, 0, 26), (2, 0, 0, 0, 27), (3, 0, 139, 83, 30), zz, zz, (0, 0, 0, 1, 31), (2, -1, 0, 0, 32)],
  [(8, 0, 9, 35, 35), zz, zz, (0, 0, 0, 1, 36), (1, 0, 9, 44, 39), zz, zz, (32, 0, 46, 0, 42), zz, zz, (2, 0, 0, 0, 43), (4, 0, 80, 0, 46), zz, zz, (0, 0, 0, 1, 47), (0, 0, 0, 1, 48)],
  [(1, 0, 9, 44, 51), zz, zz, (3, 0, 136, 82, 54), zz, zz, (0, 0, 3, 0, 55), (22, 0, 67, 0, 58), zz, zz, (0, 0, 0, 1, 59), (1, 0, 9, 13, 62), zz, zz, (0, 0, 1, 0, 63), (7, 0, 0, 0, 64)],
  [(4, 0, 68, 0, 67), zz, zz, (2, 0, 0, 0, 68), (2, 10, 0, 0, 70), zz, (0, 0, 0, 1, 71), (1, 0, 9, 44, 74), zz, zz, (0, 0, 1, 0, 75), (3, 0, 121, 2, 78), zz, zz, (18, 0, 0, 0, 79), (17, 0, 0, 0, 80)],
  [(5, 0, 0, 0, 81)]]
/-- X9_sly -/
def pg160 : List (List In) := [[(0, 0, 0, 1, 1), (0, 0, 1, 0, 2), (3, 0, 96, 82, 5), zz, zz, (6, 0, 12, 0, 8), zz, zz, (2, -1001, 0, 0, 11), zz, zz, (5, 0, 0, 0, 12), (0, 0, 2, 0, 13), (21, 0, 0, 0, 14), (24, 0, 0, 0, 15), (24, 18, 1, 0, 18)],
  [zz, zz, (3, 0, 92, 3, 21), zz, zz, (6, 0, 34, 0, 24), zz, zz, (0, 0, 3, 0, 25), (21, 0, 0, 0, 26), (24, 0, 0, 0, 27), (24, 1, 0, 0, 28), (3, 0, 92, 3, 31), zz, zz, (11, 0, 38, 0, 34)],
  [zz, zz, (2, -1002, 0, 0, 37), zz, zz, (5, 0, 0, 0, 38), (2, 4, 0, 0, 39), (10, 0, 4, 0, 41), zz, (0, 0, 0, 1, 42), (0, 0, 1, 0, 43), (2, 4, 0, 0, 44), (0, 0, 2, 0, 45), (3, 0, 159, 84, 48), zz, zz],
  [(10, 0, 5, 0, 50), zz, (2, 0, 0, 0, 51), (10, 0, 6, 0, 53), zz, (0, 0, 6, 0, 55), zz, (2, 4, 0, 0, 56), (12, 0, 107, 0, 59), zz, zz, (0, 0, 0, 1, 60), (0, 0, 1, 0, 61), (0, 0, 6, 0, 63), zz, (0, 0, 2, 0, 64)],
  [(3, 0, 159, 84, 67), zz, zz, (10, 0, 7, 0, 69), zz, (0, 0, 7, 0, 71), zz, (0, 0, 5, 0, 73), zz, (29, 0, 81, 0, 76), zz, zz, (0, 0, 6, 0, 78), zz, (4, 0, 83, 0, 81), zz],
  [zz, (0, 0, 4, 0, 83), zz, (10, 0, 4, 0, 85), zz, (0, 0, 7, 0, 87), zz, (0, 0, 5, 0, 89), zz, (29, 0, 97, 0, 92), zz, zz, (0, 0, 7, 0, 94), zz, (4, 0, 99, 0, 97), zz],
  [zz, (0, 0, 5, 0, 99), zz, (10, 0, 5, 0, 101), zz, (13, 1, 6, 0, 104), zz, zz, (4, 0, 53, 0, 107), zz, zz, (0, 0, 3, 0, 108), (11, 0, 116, 0, 111), zz, zz, (0, 0, 4, 0, 113)],
  [zz, (4, 0, 122, 0, 116), zz, zz, (2, 1000, 0, 0, 119), zz, zz, (0, 0, 5, 0, 121), zz, (9, 0, 0, 0, 122), (5, 0, 0, 0, 123)]]
/-- X9_noSet -/
def pg161 : List (List In) := [[(0, 0, 1, 0, 1), (21, 0, 0, 0, 2), (24, 0, 0, 0, 3), (2, 1, 0, 0, 4), (0, 0, 0, 1, 5), (1, 0, 9, 0, 8), zz, zz, (23, 0, 0, 0, 9), (2, 1, 0, 0, 10), (17, 0, 0, 0, 11), (21, 0, 0, 0, 12), (3, 0, 92, 3, 15), zz, zz, (11, 0, 22, 0, 18)],
  [zz, zz, (2, 1, 0, 0, 19), (4, 0, 23, 0, 22), zz, zz, (2, 0, 0, 0, 23), (54, 0, 0, 0, 24)]]
/-- X9_possible -/
def pg162 : List (List In) := [[(0, 0, 0, 1, 1), (0, 0, 1, 0, 2), (3, 0, 161, 82, 5), zz, zz, (6, 0, 14, 0, 8), zz, zz, (2, -1001, 0, 0, 11), zz, zz, (4, 0, 20, 0, 14), zz, zz, (0, 0, 0, 1, 15), (0, 0, 1, 0, 16)],
  [(0, 0, 2, 0, 17), (3, 0, 134, 83, 20), zz, zz, (5, 0, 0, 0, 21)]]
/-- X9_sure -/
def pg163 : List (List In) := [[(0, 0, 0, 1, 1), (0, 0, 1, 0, 2), (3, 0, 161, 82, 5), zz, zz, (11, 0, 16, 0, 8), zz, zz, (0, 0, 0, 1, 9), (0, 0, 2, 0, 10), (3, 0, 96, 82, 13), zz, zz, (6, 0, 20, 0, 16), zz, zz],
  [(2, -1001, 0, 0, 19), zz, zz, (5, 0, 0, 0, 20), (2, -1, 0, 0, 21), (10, 0, 3, 0, 22), (2, 0, 0, 0, 23), (10, 0, 4, 0, 25), zz, (0, 0, 4, 0, 27), zz, (0, 0, 0, 1, 28), (3, 0, 97, 81, 31), zz, zz, (12, 0, 75, 0, 34)],
  [zz, zz, (0, 0, 0, 1, 35), (0, 0, 4, 0, 37), zz, (2, 9, 0, 0, 39), zz, (0, 0, 1, 0, 40), (3, 0, 132, 84, 43), zz, zz, (32, 0, 69, 0, 46), zz, zz, (0, 0, 3, 0, 47), (36, 0, 62, 0, 50)],
  [zz, zz, (0, 0, 3, 0, 51), (0, 0, 4, 0, 53), zz, (0, 0, 2, 0, 54), (3, 0, 121, 2, 57), zz, zz, (15, 0, 62, 0, 60), zz, zz, (2, -1, 0, 0, 61), (5, 0, 0, 0, 62), (0, 0, 4, 0, 64), zz],
  [(0, 0, 2, 0, 65), (3, 0, 121, 2, 68), zz, zz, (10, 0, 3, 0, 69), (13, 1, 4, 0, 72), zz, zz, (4, 0, 25, 0, 75), zz, zz, (0, 0, 3, 0, 76), (5, 0, 0, 0, 77)]]
/-- X9_telling -/
def pg164 : List (List In) := [[(0, 0, 0, 1, 1), (0, 0, 1, 0, 2), (3, 0, 161, 82, 5), zz, zz, (11, 0, 16, 0, 8), zz, zz, (0, 0, 0, 1, 9), (0, 0, 2, 0, 10), (3, 0, 96, 82, 13), zz, zz, (6, 0, 20, 0, 16), zz, zz],
  [(2, -1001, 0, 0, 19), zz, zz, (5, 0, 0, 0, 20), (0, 0, 1, 0, 21), (0, 0, 2, 0, 22), (30, 0, 0, 0, 23), (2, 1, 0, 0, 24), (25, 0, 0, 0, 25), (11, 0, 34, 0, 28), zz, zz, (2, -1003, 0, 0, 31), zz, zz, (4, 0, 53, 0, 34)],
  [zz, zz, (0, 0, 0, 1, 35), (0, 0, 1, 0, 36), (2, -1, 0, 0, 37), (3, 0, 134, 83, 40), zz, zz, (0, 0, 0, 1, 41), (0, 0, 1, 0, 42), (2, 1, 0, 0, 43), (0, 0, 2, 0, 44), (23, 0, 0, 0, 45), (2, -1, 0, 0, 46), (38, 0, 0, 0, 47), (25, 0, 0, 0, 48)],
  [(2, -1, 0, 0, 49), (3, 0, 134, 83, 52), zz, zz, (17, 0, 0, 0, 53), (5, 0, 0, 0, 54)]]
/-- J9_max_7cf53 -/
def pg165 : List (List In) := [[(0, 0, 0, 0, 1), (0, 0, 1, 0, 2), (22, 0, 9, 0, 5), zz, zz, (0, 0, 0, 0, 6), (4, 0, 10, 0, 9), zz, zz, (0, 0, 1, 0, 10), (5, 0, 0, 0, 11)]]
/-- J7_fill_53178 -/
def pg166 : List (List In) := [[(2, 0, 0, 0, 1), (10, 0, 2, 0, 2), (0, 0, 0, 1, 3), (48, 0, 0, 0, 4), (10, 0, 3, 0, 5), (0, 0, 2, 0, 6), (0, 0, 3, 0, 7), (12, 0, 20, 0, 10), zz, zz, (0, 0, 0, 1, 11), (0, 0, 2, 0, 12), (0, 0, 1, 0, 13), (16, 0, 0, 0, 14), (13, 1, 2, 0, 17), zz],
  [zz, (4, 0, 5, 0, 20), zz, zz, (19, 0, 0, 0, 21)]]
/-- L_law -/
def pg167_0 : List (List In) := [[zz, zz, zz, zz, zz, zz, zz, zz, zz, zz, zz, zz, zz, zz, zz, zz],
  [(2, 0, 0, 0, 17), (10, 0, 3, 0, 18), (0, 0, 3, 0, 19), (0, 0, 0, 1, 20), (48, 0, 0, 0, 21), (2, 4, 0, 0, 22), (17, 0, 0, 0, 23), (27, 0, 895, 0, 26), zz, zz, (0, 0, 0, 1, 27), (0, 0, 3, 0, 28), (7, 0, 0, 0, 29), (2, 31, 0, 0, 31), zz, (25, 0, 0, 0, 32)],
  [(37, 0, 4, 889, 140), zz, zz, zz, zz, zz, zz, zz, zz, zz, zz, zz, zz, zz, zz, zz],
  [zz, zz, zz, zz, zz, zz, zz, zz, zz, zz, zz, zz, zz, zz, zz, zz],
  [zz, zz, zz, zz, zz, zz, zz, zz, zz, zz, zz, zz, zz, zz, zz, zz],
  [zz, zz, zz, zz, zz, zz, zz, zz, zz, zz, zz, zz, zz, zz, zz, zz],
  [zz, zz, zz, zz, zz, zz, zz, zz, zz, zz, zz, zz, zz, zz, zz, zz],
  [zz, zz, zz, zz, zz, zz, zz, zz, zz, zz, zz, zz, zz, zz, zz, zz],
  [zz, zz, zz, zz, zz, zz, zz, zz, zz, zz, zz, zz, (0, 0, 1, 1, 141), (0, 0, 0, 1, 142), (0, 0, 3, 0, 143), (2, 1, 0, 0, 144)],
  [(9, 0, 0, 0, 145), (7, 0, 0, 0, 146), (3, 0, 62, 74, 149), zz, zz, (0, 0, 2, 1, 150), (0, 0, 0, 1, 151), (0, 0, 3, 0, 152), (2, 1, 0, 0, 153), (9, 0, 0, 0, 154), (7, 0, 0, 0, 155), (3, 0, 95, 82, 158), zz, zz, (15, 0, 889, 0, 161), zz],
  [zz, (2, 0, 0, 0, 162), (54, 0, 0, 0, 163), (0, 0, 1, 1, 164), (0, 0, 0, 1, 165), (0, 0, 3, 0, 166), (2, 1, 0, 0, 167), (9, 0, 0, 0, 168), (7, 0, 0, 0, 169), (0, 0, 0, 1, 170), (0, 0, 3, 0, 171), (2, 2, 0, 0, 172), (9, 0, 0, 0, 173), (7, 0, 0, 0, 174), (21, 0, 0, 0, 175), (2, 32, 0, 0, 177)],
  [zz, (42, 0, 0, 0, 178), (0, 0, 0, 1, 179), (0, 0, 3, 0, 180), (2, 3, 0, 0, 181), (9, 0, 0, 0, 182), (7, 0, 0, 0, 183), (21, 0, 0, 0, 184), (24, 0, 2, 0, 187), zz, zz, (40, 0, 0, 0, 188), (43, 0, 0, 0, 189), (3, 0, 63, 75, 192), zz, zz],
  [(0, 0, 2, 1, 193), (0, 0, 0, 1, 194), (0, 0, 3, 0, 195), (2, 1, 0, 0, 196), (9, 0, 0, 0, 197), (7, 0, 0, 0, 198), (0, 0, 0, 1, 199), (0, 0, 3, 0, 200), (2, 2, 0, 0, 201), (9, 0, 0, 0, 202), (7, 0, 0, 0, 203), (21, 0, 0, 0, 204), (2, 32, 0, 0, 206), zz, (42, 0, 0, 0, 207), (0, 0, 0, 1, 208)],
  [(0, 0, 3, 0, 209), (2, 3, 0, 0, 210), (9, 0, 0, 0, 211), (7, 0, 0, 0, 212), (21, 0, 0, 0, 213), (24, 0, 2, 0, 216), zz, zz, (40, 0, 0, 0, 217), (43, 0, 0, 0, 218), (3, 0, 100, 83, 221), zz, zz, (15, 0, 889, 0, 224), zz, zz],
  [(2, 0, 0, 0, 225), (54, 0, 0, 0, 226), (0, 0, 1, 1, 227), (0, 0, 0, 1, 228), (0, 0, 3, 0, 229), (2, 1, 0, 0, 230), (9, 0, 0, 0, 231), (7, 0, 0, 0, 232), (3, 0, 64, 74, 235), zz, zz, (0, 0, 2, 1, 236), (0, 0, 0, 1, 237), (0, 0, 3, 0, 238), (2, 1, 0, 0, 239), (9, 0, 0, 0, 240)],
  [(7, 0, 0, 0, 241), (3, 0, 119, 82, 244), zz, zz, (15, 0, 889, 0, 247), zz, zz, (2, 0, 0, 0, 248), (54, 0, 0, 0, 249), (0, 0, 1, 1, 250), (3, 0, 65, 73, 253), zz, zz, (0, 0, 2, 1, 254), (3, 0, 120, 81, 257), zz]]
def pg167_1 : List (List In) := [[zz, (15, 0, 889, 0, 260), zz, zz, (2, 0, 0, 0, 261), (54, 0, 0, 0, 262), (0, 0, 1, 1, 263), (0, 0, 0, 1, 264), (0, 0, 3, 0, 265), (2, 1, 0, 0, 266), (9, 0, 0, 0, 267), (7, 0, 0, 0, 268), (0, 0, 0, 1, 269), (0, 0, 3, 0, 270), (2, 2, 0, 0, 271), (9, 0, 0, 0, 272)],
  [(7, 0, 0, 0, 273), (0, 0, 0, 1, 274), (0, 0, 3, 0, 275), (2, 3, 0, 0, 276), (9, 0, 0, 0, 277), (7, 0, 0, 0, 278), (3, 0, 66, 76, 281), zz, zz, (0, 0, 2, 1, 282), (0, 0, 0, 1, 283), (0, 0, 3, 0, 284), (2, 1, 0, 0, 285), (9, 0, 0, 0, 286), (7, 0, 0, 0, 287), (0, 0, 0, 1, 288)],
  [(0, 0, 3, 0, 289), (2, 2, 0, 0, 290), (9, 0, 0, 0, 291), (7, 0, 0, 0, 292), (0, 0, 0, 1, 293), (0, 0, 3, 0, 294), (2, 3, 0, 0, 295), (9, 0, 0, 0, 296), (7, 0, 0, 0, 297), (3, 0, 126, 84, 300), zz, zz, (15, 0, 889, 0, 303), zz, zz, (2, 0, 0, 0, 304)],
  [(54, 0, 0, 0, 305), (0, 0, 1, 1, 306), (0, 0, 0, 1, 307), (0, 0, 3, 0, 308), (2, 1, 0, 0, 309), (9, 0, 0, 0, 310), (7, 0, 0, 0, 311), (3, 0, 67, 74, 314), zz, zz, (0, 0, 2, 1, 315), (0, 0, 0, 1, 316), (0, 0, 3, 0, 317), (2, 1, 0, 0, 318), (9, 0, 0, 0, 319), (7, 0, 0, 0, 320)],
  [(3, 0, 129, 82, 323), zz, zz, (15, 0, 889, 0, 326), zz, zz, (2, 0, 0, 0, 327), (54, 0, 0, 0, 328), (0, 0, 1, 1, 329), (0, 0, 0, 1, 330), (0, 0, 3, 0, 331), (2, 1, 0, 0, 332), (9, 0, 0, 0, 333), (7, 0, 0, 0, 334), (0, 0, 0, 1, 335), (0, 0, 3, 0, 336)],
  [(2, 2, 0, 0, 337), (9, 0, 0, 0, 338), (7, 0, 0, 0, 339), (0, 0, 0, 1, 340), (0, 0, 3, 0, 341), (2, 3, 0, 0, 342), (9, 0, 0, 0, 343), (7, 0, 0, 0, 344), (3, 0, 68, 76, 347), zz, zz, (0, 0, 2, 1, 348), (0, 0, 0, 1, 349), (0, 0, 3, 0, 350), (2, 1, 0, 0, 351), (9, 0, 0, 0, 352)],
  [(7, 0, 0, 0, 353), (0, 0, 0, 1, 354), (0, 0, 3, 0, 355), (2, 2, 0, 0, 356), (9, 0, 0, 0, 357), (7, 0, 0, 0, 358), (0, 0, 0, 1, 359), (0, 0, 3, 0, 360), (2, 3, 0, 0, 361), (9, 0, 0, 0, 362), (7, 0, 0, 0, 363), (3, 0, 131, 84, 366), zz, zz, (15, 0, 889, 0, 369), zz],
  [zz, (2, 0, 0, 0, 370), (54, 0, 0, 0, 371), (0, 0, 1, 1, 372), (0, 0, 0, 1, 373), (0, 0, 3, 0, 374), (2, 1, 0, 0, 375), (9, 0, 0, 0, 376), (7, 0, 0, 0, 377), (0, 0, 0, 1, 378), (0, 0, 3, 0, 379), (2, 2, 0, 0, 380), (9, 0, 0, 0, 381), (7, 0, 0, 0, 382), (3, 0, 69, 75, 385), zz],
  [zz, (0, 0, 2, 1, 386), (0, 0, 0, 1, 387), (0, 0, 3, 0, 388), (2, 1, 0, 0, 389), (9, 0, 0, 0, 390), (7, 0, 0, 0, 391), (0, 0, 0, 1, 392), (0, 0, 3, 0, 393), (2, 2, 0, 0, 394), (9, 0, 0, 0, 395), (7, 0, 0, 0, 396), (3, 0, 133, 83, 399), zz, zz, (15, 0, 889, 0, 402)],
  [zz, zz, (2, 0, 0, 0, 403), (54, 0, 0, 0, 404), (0, 0, 1, 1, 405), (0, 0, 0, 1, 406), (0, 0, 3, 0, 407), (2, 1, 0, 0, 408), (9, 0, 0, 0, 409), (7, 0, 0, 0, 410), (3, 0, 70, 74, 413), zz, zz, (0, 0, 2, 1, 414), (0, 0, 0, 1, 415), (0, 0, 3, 0, 416)],
  [(2, 1, 0, 0, 417), (9, 0, 0, 0, 418), (7, 0, 0, 0, 419), (3, 0, 135, 82, 422), zz, zz, (15, 0, 889, 0, 425), zz, zz, (2, 0, 0, 0, 426), (54, 0, 0, 0, 427), (0, 0, 1, 1, 428), (0, 0, 0, 1, 429), (0, 0, 3, 0, 430), (2, 1, 0, 0, 431), (9, 0, 0, 0, 432)],
  [(7, 0, 0, 0, 433), (3, 0, 71, 74, 436), zz, zz, (0, 0, 2, 1, 437), (0, 0, 0, 1, 438), (0, 0, 3, 0, 439), (2, 1, 0, 0, 440), (9, 0, 0, 0, 441), (7, 0, 0, 0, 442), (3, 0, 137, 82, 445), zz, zz, (15, 0, 889, 0, 448), zz, zz],
  [(2, 0, 0, 0, 449), (54, 0, 0, 0, 450), (0, 0, 1, 1, 451), (0, 0, 0, 1, 452), (0, 0, 3, 0, 453), (2, 1, 0, 0, 454), (9, 0, 0, 0, 455), (7, 0, 0, 0, 456), (0, 0, 0, 1, 457), (0, 0, 3, 0, 458), (2, 2, 0, 0, 459), (9, 0, 0, 0, 460), (7, 0, 0, 0, 461), (0, 0, 0, 1, 462), (0, 0, 3, 0, 463), (2, 3, 0, 0, 464)],
  [(9, 0, 0, 0, 465), (7, 0, 0, 0, 466), (3, 0, 72, 76, 469), zz, zz, (0, 0, 2, 1, 470), (0, 0, 0, 1, 471), (0, 0, 3, 0, 472), (2, 1, 0, 0, 473), (9, 0, 0, 0, 474), (7, 0, 0, 0, 475), (0, 0, 0, 1, 476), (0, 0, 3, 0, 477), (2, 2, 0, 0, 478), (9, 0, 0, 0, 479), (7, 0, 0, 0, 480)],
  [(0, 0, 0, 1, 481), (0, 0, 3, 0, 482), (2, 3, 0, 0, 483), (9, 0, 0, 0, 484), (7, 0, 0, 0, 485), (3, 0, 140, 84, 488), zz, zz, (15, 0, 889, 0, 491), zz, zz, (2, 0, 0, 0, 492), (54, 0, 0, 0, 493), (0, 0, 1, 1, 494), (0, 0, 0, 1, 495), (0, 0, 3, 0, 496)],
  [(2, 1, 0, 0, 497), (9, 0, 0, 0, 498), (7, 0, 0, 0, 499), (0, 0, 0, 1, 500), (0, 0, 3, 0, 501), (2, 2, 0, 0, 502), (9, 0, 0, 0, 503), (7, 0, 0, 0, 504), (3, 0, 73, 75, 507), zz, zz, (0, 0, 2, 1, 508), (0, 0, 0, 1, 509), (0, 0, 3, 0, 510), (2, 1, 0, 0, 511), (9, 0, 0, 0, 512)]]
def pg167_2 : List (List In) := [[(7, 0, 0, 0, 513), (0, 0, 0, 1, 514), (0, 0, 3, 0, 515), (2, 2, 0, 0, 516), (9, 0, 0, 0, 517), (7, 0, 0, 0, 518), (3, 0, 141, 83, 521), zz, zz, (15, 0, 889, 0, 524), zz, zz, (2, 0, 0, 0, 525), (54, 0, 0, 0, 526), (0, 0, 1, 1, 527), (0, 0, 0, 1, 528)],
  [(0, 0, 3, 0, 529), (2, 1, 0, 0, 530), (9, 0, 0, 0, 531), (7, 0, 0, 0, 532), (0, 0, 0, 1, 533), (0, 0, 3, 0, 534), (2, 2, 0, 0, 535), (9, 0, 0, 0, 536), (7, 0, 0, 0, 537), (3, 0, 74, 75, 540), zz, zz, (0, 0, 2, 1, 541), (0, 0, 0, 1, 542), (0, 0, 3, 0, 543), (2, 1, 0, 0, 544)],
  [(9, 0, 0, 0, 545), (7, 0, 0, 0, 546), (0, 0, 0, 1, 547), (0, 0, 3, 0, 548), (2, 2, 0, 0, 549), (9, 0, 0, 0, 550), (7, 0, 0, 0, 551), (3, 0, 142, 83, 554), zz, zz, (15, 0, 889, 0, 557), zz, zz, (2, 0, 0, 0, 558), (54, 0, 0, 0, 559), (0, 0, 1, 1, 560)],
  [(0, 0, 0, 1, 561), (0, 0, 3, 0, 562), (2, 1, 0, 0, 563), (9, 0, 0, 0, 564), (7, 0, 0, 0, 565), (0, 0, 0, 1, 566), (0, 0, 3, 0, 567), (2, 2, 0, 0, 568), (9, 0, 0, 0, 569), (7, 0, 0, 0, 570), (3, 0, 75, 75, 573), zz, zz, (0, 0, 2, 1, 574), (0, 0, 0, 1, 575), (0, 0, 3, 0, 576)],
  [(2, 1, 0, 0, 577), (9, 0, 0, 0, 578), (7, 0, 0, 0, 579), (0, 0, 0, 1, 580), (0, 0, 3, 0, 581), (2, 2, 0, 0, 582), (9, 0, 0, 0, 583), (7, 0, 0, 0, 584), (3, 0, 148, 83, 587), zz, zz, (15, 0, 889, 0, 590), zz, zz, (2, 0, 0, 0, 591), (54, 0, 0, 0, 592)],
  [(0, 0, 1, 1, 593), (0, 0, 0, 1, 594), (0, 0, 3, 0, 595), (2, 1, 0, 0, 596), (9, 0, 0, 0, 597), (7, 0, 0, 0, 598), (3, 0, 76, 74, 601), zz, zz, (0, 0, 2, 1, 602), (0, 0, 0, 1, 603), (0, 0, 3, 0, 604), (2, 1, 0, 0, 605), (9, 0, 0, 0, 606), (7, 0, 0, 0, 607), (3, 0, 150, 82, 610)],
  [zz, zz, (15, 0, 889, 0, 613), zz, zz, (2, 0, 0, 0, 614), (54, 0, 0, 0, 615), (0, 0, 1, 1, 616), (0, 0, 0, 1, 617), (0, 0, 3, 0, 618), (2, 1, 0, 0, 619), (9, 0, 0, 0, 620), (7, 0, 0, 0, 621), (3, 0, 77, 74, 624), zz, zz],
  [(0, 0, 2, 1, 625), (0, 0, 0, 1, 626), (0, 0, 3, 0, 627), (2, 1, 0, 0, 628), (9, 0, 0, 0, 629), (7, 0, 0, 0, 630), (3, 0, 151, 82, 633), zz, zz, (15, 0, 889, 0, 636), zz, zz, (2, 0, 0, 0, 637), (54, 0, 0, 0, 638), (0, 0, 1, 1, 639), (0, 0, 0, 1, 640)],
  [(0, 0, 3, 0, 641), (2, 1, 0, 0, 642), (9, 0, 0, 0, 643), (7, 0, 0, 0, 644), (0, 0, 0, 1, 645), (0, 0, 3, 0, 646), (2, 2, 0, 0, 647), (9, 0, 0, 0, 648), (7, 0, 0, 0, 649), (0, 0, 0, 1, 650), (0, 0, 3, 0, 651), (2, 3, 0, 0, 652), (9, 0, 0, 0, 653), (7, 0, 0, 0, 654), (3, 0, 78, 76, 657), zz],
  [zz, (0, 0, 2, 1, 658), (0, 0, 0, 1, 659), (0, 0, 3, 0, 660), (2, 1, 0, 0, 661), (9, 0, 0, 0, 662), (7, 0, 0, 0, 663), (0, 0, 0, 1, 664), (0, 0, 3, 0, 665), (2, 2, 0, 0, 666), (9, 0, 0, 0, 667), (7, 0, 0, 0, 668), (0, 0, 0, 1, 669), (0, 0, 3, 0, 670), (2, 3, 0, 0, 671), (9, 0, 0, 0, 672)],
  [(7, 0, 0, 0, 673), (3, 0, 152, 84, 676), zz, zz, (15, 0, 889, 0, 679), zz, zz, (2, 0, 0, 0, 680), (54, 0, 0, 0, 681), (0, 0, 1, 1, 682), (0, 0, 0, 1, 683), (0, 0, 3, 0, 684), (2, 1, 0, 0, 685), (9, 0, 0, 0, 686), (7, 0, 0, 0, 687), (0, 0, 0, 1, 688)],
  [(0, 0, 3, 0, 689), (2, 2, 0, 0, 690), (9, 0, 0, 0, 691), (7, 0, 0, 0, 692), (0, 0, 0, 1, 693), (0, 0, 3, 0, 694), (2, 3, 0, 0, 695), (9, 0, 0, 0, 696), (7, 0, 0, 0, 697), (3, 0, 79, 76, 700), zz, zz, (0, 0, 2, 1, 701), (0, 0, 0, 1, 702), (0, 0, 3, 0, 703), (2, 1, 0, 0, 704)],
  [(9, 0, 0, 0, 705), (7, 0, 0, 0, 706), (0, 0, 0, 1, 707), (0, 0, 3, 0, 708), (2, 2, 0, 0, 709), (9, 0, 0, 0, 710), (7, 0, 0, 0, 711), (0, 0, 0, 1, 712), (0, 0, 3, 0, 713), (2, 3, 0, 0, 714), (9, 0, 0, 0, 715), (7, 0, 0, 0, 716), (3, 0, 157, 84, 719), zz, zz, (15, 0, 889, 0, 722)],
  [zz, zz, (2, 0, 0, 0, 723), (54, 0, 0, 0, 724), (0, 0, 1, 1, 725), (0, 0, 0, 1, 726), (0, 0, 3, 0, 727), (2, 1, 0, 0, 728), (9, 0, 0, 0, 729), (7, 0, 0, 0, 730), (3, 0, 80, 74, 733), zz, zz, (0, 0, 2, 1, 734), (0, 0, 0, 1, 735), (0, 0, 3, 0, 736)],
  [(2, 1, 0, 0, 737), (9, 0, 0, 0, 738), (7, 0, 0, 0, 739), (3, 0, 158, 82, 742), zz, zz, (15, 0, 889, 0, 745), zz, zz, (2, 0, 0, 0, 746), (54, 0, 0, 0, 747), (0, 0, 1, 1, 748), (0, 0, 0, 1, 749), (0, 0, 3, 0, 750), (2, 1, 0, 0, 751), (9, 0, 0, 0, 752)],
  [(7, 0, 0, 0, 753), (0, 0, 0, 1, 754), (0, 0, 3, 0, 755), (2, 2, 0, 0, 756), (9, 0, 0, 0, 757), (7, 0, 0, 0, 758), (0, 0, 0, 1, 759), (0, 0, 3, 0, 760), (2, 3, 0, 0, 761), (9, 0, 0, 0, 762), (7, 0, 0, 0, 763), (3, 0, 81, 76, 766), zz, zz, (0, 0, 2, 1, 767), (0, 0, 0, 1, 768)]]
def pg167_3 : List (List In) := [[(0, 0, 3, 0, 769), (2, 1, 0, 0, 770), (9, 0, 0, 0, 771), (7, 0, 0, 0, 772), (0, 0, 0, 1, 773), (0, 0, 3, 0, 774), (2, 2, 0, 0, 775), (9, 0, 0, 0, 776), (7, 0, 0, 0, 777), (0, 0, 0, 1, 778), (0, 0, 3, 0, 779), (2, 3, 0, 0, 780), (9, 0, 0, 0, 781), (7, 0, 0, 0, 782), (3, 0, 160, 84, 785), zz],
  [zz, (15, 0, 889, 0, 788), zz, zz, (2, 0, 0, 0, 789), (54, 0, 0, 0, 790), (0, 0, 1, 1, 791), (0, 0, 0, 1, 792), (0, 0, 3, 0, 793), (2, 1, 0, 0, 794), (9, 0, 0, 0, 795), (7, 0, 0, 0, 796), (0, 0, 0, 1, 797), (0, 0, 3, 0, 798), (2, 2, 0, 0, 799), (9, 0, 0, 0, 800)],
  [(7, 0, 0, 0, 801), (3, 0, 82, 75, 804), zz, zz, (0, 0, 2, 1, 805), (0, 0, 0, 1, 806), (0, 0, 3, 0, 807), (2, 1, 0, 0, 808), (9, 0, 0, 0, 809), (7, 0, 0, 0, 810), (0, 0, 0, 1, 811), (0, 0, 3, 0, 812), (2, 2, 0, 0, 813), (9, 0, 0, 0, 814), (7, 0, 0, 0, 815), (3, 0, 162, 83, 818)],
  [zz, zz, (15, 0, 889, 0, 821), zz, zz, (2, 0, 0, 0, 822), (54, 0, 0, 0, 823), (0, 0, 1, 1, 824), (0, 0, 0, 1, 825), (0, 0, 3, 0, 826), (2, 1, 0, 0, 827), (9, 0, 0, 0, 828), (7, 0, 0, 0, 829), (0, 0, 0, 1, 830), (0, 0, 3, 0, 831), (2, 2, 0, 0, 832)],
  [(9, 0, 0, 0, 833), (7, 0, 0, 0, 834), (3, 0, 83, 75, 837), zz, zz, (0, 0, 2, 1, 838), (0, 0, 0, 1, 839), (0, 0, 3, 0, 840), (2, 1, 0, 0, 841), (9, 0, 0, 0, 842), (7, 0, 0, 0, 843), (0, 0, 0, 1, 844), (0, 0, 3, 0, 845), (2, 2, 0, 0, 846), (9, 0, 0, 0, 847), (7, 0, 0, 0, 848)],
  [(3, 0, 163, 83, 851), zz, zz, (15, 0, 889, 0, 854), zz, zz, (2, 0, 0, 0, 855), (54, 0, 0, 0, 856), (0, 0, 1, 1, 857), (0, 0, 0, 1, 858), (0, 0, 3, 0, 859), (2, 1, 0, 0, 860), (9, 0, 0, 0, 861), (7, 0, 0, 0, 862), (0, 0, 0, 1, 863), (0, 0, 3, 0, 864)],
  [(2, 2, 0, 0, 865), (9, 0, 0, 0, 866), (7, 0, 0, 0, 867), (3, 0, 84, 75, 870), zz, zz, (0, 0, 2, 1, 871), (0, 0, 0, 1, 872), (0, 0, 3, 0, 873), (2, 1, 0, 0, 874), (9, 0, 0, 0, 875), (7, 0, 0, 0, 876), (0, 0, 0, 1, 877), (0, 0, 3, 0, 878), (2, 2, 0, 0, 879), (9, 0, 0, 0, 880)],
  [(7, 0, 0, 0, 881), (3, 0, 164, 83, 884), zz, zz, (15, 0, 889, 0, 887), zz, zz, (2, 0, 0, 0, 888), (54, 0, 0, 0, 889), (13, 4, 3, 0, 892), zz, zz, (4, 0, 18, 0, 895), zz, zz, (2, 1, 0, 0, 896)],
  [(54, 0, 0, 0, 897)]]
def pg167 : List (List In) := pg167_0 ++ pg167_1 ++ pg167_2 ++ pg167_3
def pgT0 : List (List (List In)) := [pg0, pg1, pg2, pg3, pg4, pg5, pg6, pg7, pg8, pg9, pg10, pg11, pg12, pg13, pg14, pg15]
def pgT1 : List (List (List In)) := [pg16, pg17, pg18, pg19, pg20, pg21, pg22, pg23, pg24, pg25, pg26, pg27, pg28, pg29, pg30, pg31]
def pgT2 : List (List (List In)) := [pg32, pg33, pg34, pg35, pg36, pg37, pg38, pg39, pg40, pg41, pg42, pg43, pg44, pg45, pg46, pg47]
def pgT3 : List (List (List In)) := [pg48, pg49, pg50, pg51, pg52, pg53, pg54, pg55, pg56, pg57, pg58, pg59, pg60, pg61, pg62, pg63]
def pgT4 : List (List (List In)) := [pg64, pg65, pg66, pg67, pg68, pg69, pg70, pg71, pg72, pg73, pg74, pg75, pg76, pg77, pg78, pg79]
def pgT5 : List (List (List In)) := [pg80, pg81, pg82, pg83, pg84, pg85, pg86, pg87, pg88, pg89, pg90, pg91, pg92, pg93, pg94, pg95]
def pgT6 : List (List (List In)) := [pg96, pg97, pg98, pg99, pg100, pg101, pg102, pg103, pg104, pg105, pg106, pg107, pg108, pg109, pg110, pg111]
def pgT7 : List (List (List In)) := [pg112, pg113, pg114, pg115, pg116, pg117, pg118, pg119, pg120, pg121, pg122, pg123, pg124, pg125, pg126, pg127]
def pgT8 : List (List (List In)) := [pg128, pg129, pg130, pg131, pg132, pg133, pg134, pg135, pg136, pg137, pg138, pg139, pg140, pg141, pg142, pg143]
def pgT9 : List (List (List In)) := [pg144, pg145, pg146, pg147, pg148, pg149, pg150, pg151, pg152, pg153, pg154, pg155, pg156, pg157, pg158, pg159]
def pgT10 : List (List (List In)) := [pg160, pg161, pg162, pg163, pg164, pg165, pg166, pg167]
def pgT : List (List (List (List In))) := [pgT0, pgT1, pgT2, pgT3, pgT4, pgT5, pgT6, pgT7, pgT8, pgT9, pgT10]
/-- the instruction at a place of a method -/
def ins (y pc : Nat) : In := ((((pgT.getD (y / 16) []).getD (y % 16) []).getD (pc / 16) []).getD (pc % 16) zz)
def plen (y : Nat) : Nat := ((pgT.getD (y / 16) []).getD (y % 16) []).length * 16
/-- the tables of switches: the first number, the places -/
def tsT : List (Int × List Nat) := [(1, [28, 37, 42]), (0, [44, 53, 68]), (0, [32, 40, 48, 56]), (0, [32, 37, 42, 47]), (0, [140, 163, 226, 249, 262, 305, 328, 371, 404, 427, 450, 493, 526, 559, 592, 615, 638, 681, 724, 747, 790, 823, 856])]
/-- which field an entry of a class's pool means: (own class, entry, class, field, place of its word) -/
def cpF : List (Nat × Nat × Nat × Nat × Nat) := [(8, 10, 8, 0, 325), (8, 21, 8, 1, 326), (8, 28, 8, 2, 327), (8, 37, 8, 3, 328), (8, 44, 8, 4, 329), (8, 64, 6, 1, 104), (8, 75, 3, 12, 185), (8, 78, 7, 0, 283), (8, 82, 3, 11, 183), (8, 92, 2, 2, 255), (8, 95, 5, 3, 139), (8, 100, 3, 13, 187), (8, 106, 7, 1, 287), (8, 153, 1, 1, 301), (8, 156, 1, 2, 303), (8, 159, 1, 3, 305), (8, 173, 2, 3, 259), (8, 176, 2, 4, 262), (0, 7, 0, 0, 321), (0, 17, 7, 1, 285), (0, 23, 7, 0, 281), (0, 33, 2, 3, 258), (0, 46, 2, 4, 261), (1, 9, 1, 1, 300), (1, 15, 1, 2, 302), (1, 18, 1, 3, 304), (1, 21, 1, 0, 299), (1, 29, 7, 1, 286), (1, 34, 7, 0, 282), (2, 12, 2, 2, 254), (2, 18, 2, 3, 257), (2, 22, 2, 4, 260), (2, 25, 2, 5, 263), (2, 29, 2, 6, 264), (2, 32, 2, 0, 252), (2, 35, 2, 1, 253), (3, 11, 3, 1, 172), (3, 15, 3, 2, 173), (3, 18, 3, 3, 174), (3, 21, 3, 4, 175), (3, 25, 3, 5, 176), (3, 28, 3, 6, 177), (3, 31, 3, 7, 178), (3, 34, 3, 8, 179), (3, 37, 3, 9, 180), (3, 40, 3, 10, 181), (3, 46, 3, 11, 182), (3, 50, 3, 12, 184), (3, 53, 3, 13, 186), (3, 56, 3, 0, 171), (3, 80, 6, 1, 103), (3, 85, 6, 0, 101), (4, 9, 4, 0, 231), (4, 15, 4, 1, 232), (4, 18, 4, 2, 234), (4, 21, 4, 3, 235), (5, 11, 5, 0, 135), (5, 15, 5, 1, 136), (5, 18, 5, 2, 137), (5, 21, 5, 3, 138), (5, 25, 5, 4, 141), (5, 28, 5, 5, 142), (5, 31, 5, 6, 143), (5, 34, 5, 7, 144), (5, 37, 5, 8, 145), (5, 40, 5, 9, 146), (5, 43, 5, 10, 147), (5, 67, 4, 1, 233), (6, 9, 6, 0, 100), (6, 15, 6, 1, 102), (7, 11, 7, 0, 280), (7, 17, 7, 1, 284), (7, 38, 2, 2, 256), (7, 42, 5, 3, 140), (9, 7, 9, 1, 792), (9, 13, 9, 2, 793), (9, 16, 9, 3, 794), (9, 19, 9, 4, 795), (9, 22, 9, 5, 796), (9, 25, 9, 6, 797), (9, 28, 9, 7, 798), (9, 31, 9, 8, 799), (9, 34, 9, 9, 800), (9, 37, 9, 10, 801), (9, 40, 9, 11, 802), (9, 44, 9, 12, 803), (9, 47, 9, 13, 804), (9, 50, 9, 14, 805), (9, 53, 9, 20, 811), (9, 57, 9, 23, 814), (9, 60, 9, 24, 815), (9, 63, 9, 25, 816), (9, 66, 9, 26, 817), (9, 69, 9, 27, 818), (9, 72, 9, 28, 819), (9, 75, 9, 29, 820), (9, 78, 9, 30, 821), (9, 81, 9, 31, 822), (9, 84, 9, 32, 823), (9, 87, 9, 33, 824), (9, 90, 9, 35, 826), (9, 93, 9, 37, 828), (9, 96, 9, 38, 829), (9, 99, 9, 39, 830), (9, 102, 9, 40, 831), (9, 105, 9, 43, 834), (9, 108, 9, 47, 838), (9, 111, 9, 48, 839), (9, 118, 9, 0, 791), (9, 135, 9, 15, 806), (9, 140, 9, 16, 807), (9, 143, 9, 19, 810), (9, 149, 9, 17, 808), (9, 156, 9, 18, 809), (9, 174, 9, 22, 813), (9, 190, 9, 34, 825), (9, 222, 9, 21, 812), (9, 242, 9, 36, 827), (9, 271, 9, 41, 832), (9, 274, 9, 42, 833), (9, 292, 9, 45, 836), (9, 295, 9, 46, 837), (9, 298, 9, 44, 835), (9, 307, 9, 49, 840)]
/-- which method: (own class, entry, method, how many on the stack, kind: 0 virtual, 1 static, 2 a nest mate's static one, places of its words) -/
def cpM0 : List (Nat × Nat × Nat × Nat × Nat × List Nat) := [(8, 48, 87, 3, 1, [345, 346, 70, 347]), (8, 52, 47, 66, 0, [348, 349, 350, 74, 351]), (8, 56, 45, 58, 0, [361, 362, 363, 71, 364]), (8, 60, 46, 59, 0, [365, 366, 367, 71, 368]), (8, 68, 48, 66, 0, [374, 375, 376, 74, 377]), (8, 71, 11, 33, 0, [379, 380, 381, 72, 382]), (8, 86, 7, 26, 0, [533, 534, 535, 76, 536]), (8, 103, 50, 66, 0, [546, 547, 548, 74, 549]), (8, 109, 8, 28, 0, [554, 555, 556, 76, 557]), (8, 113, 52, 65, 0, [595, 596, 597, 74, 598]), (8, 116, 53, 66, 0, [599, 600, 601, 74, 602]), (8, 120, 54, 67, 0, [623, 604, 605, 74, 606]), (8, 124, 55, 68, 0, [624, 609, 610, 74, 611]), (8, 127, 89, 2, 1, [629, 581, 70, 582]), (8, 130, 57, 66, 0, [634, 635, 636, 74, 637]), (8, 133, 58, 67, 0, [645, 646, 647, 74, 648]), (8, 136, 51, 65, 0, [653, 551, 552, 74, 553]), (8, 139, 56, 67, 0, [654, 639, 640, 74, 641]), (8, 143, 91, 1, 1, [655, 656, 70, 657]), (8, 146, 86, 3, 1, [658, 659, 70, 660]), (8, 149, 4, 21, 0, [665, 666, 667, 77, 668]), (8, 162, 59, 68, 0, [679, 680, 681, 74, 682]), (8, 165, 60, 66, 0, [692, 693, 694, 74, 695]), (8, 168, 10, 27, 0, [710, 697, 698, 76, 699]), (8, 170, 61, 67, 0, [715, 716, 717, 74, 718]), (8, 179, 49, 66, 0, [735, 736, 737, 74, 738]), (8, 182, 0, 12, 0, [739, 740, 741, 78, 742]), (8, 185, 1, 11, 0, [755, 756, 757, 78, 758]), (8, 188, 85, 76, 0, [764, 766, 23, 70, 767]), (8, 191, 88, 2, 1, [780, 643, 70, 644]), (0, 13, 3, 10, 0, [743, 745, 22, 78, 746]), (0, 27, 88, 2, 2, [747, 643, 70, 644]), (0, 38, 2, 4, 1, [748, 749, 78, 750]), (0, 42, 0, 12, 0, [759, 740, 741, 78, 742]), (1, 25, 5, 21, 0, [669, 671, 20, 77, 672]), (1, 38, 9, 28, 0, [673, 613, 614, 76, 615]), (1, 44, 90, 3, 2, [674, 563, 70, 564]), (2, 39, 35, 49, 0, [356, 124, 125, 73, 126]), (2, 42, 31, 45, 0, [558, 559, 560, 75, 561]), (2, 48, 40, 50, 0, [565, 566, 567, 73, 568]), (2, 52, 166, 2, 1, [616, 617, 84, 618]), (2, 58, 89, 2, 2, [700, 581, 70, 582]), (2, 62, 43, 5, 2, [701, 702, 73, 703]), (3, 60, 36, 49, 0, [383, 128, 129, 73, 130]), (3, 63, 12, 33, 0, [384, 386, 0, 72, 387]), (3, 66, 15, 33, 0, [395, 397, 2, 72, 398]), (3, 72, 27, 34, 0, [404, 406, 4, 72, 407]), (3, 76, 30, 34, 0, [466, 468, 7, 72, 469])]
def cpM1 : List (Nat × Nat × Nat × Nat × Nat × List Nat) := [(3, 88, 14, 1, 1, [388, 389, 72, 390]), (3, 92, 13, 36, 0, [391, 393, 1, 72, 394]), (3, 96, 16, 33, 0, [399, 401, 3, 72, 402]), (3, 101, 17, 34, 0, [472, 474, 8, 72, 475]), (3, 110, 26, 35, 0, [462, 464, 6, 72, 465]), (3, 114, 37, 51, 0, [470, 132, 133, 73, 134]), (3, 118, 18, 34, 0, [476, 478, 9, 72, 479]), (3, 123, 38, 54, 0, [489, 490, 491, 73, 492]), (3, 131, 28, 34, 0, [408, 410, 5, 72, 411]), (3, 134, 29, 34, 0, [481, 483, 10, 72, 484]), (3, 138, 19, 34, 0, [485, 487, 11, 72, 488]), (3, 141, 20, 33, 0, [497, 499, 13, 72, 500]), (3, 146, 23, 33, 0, [502, 504, 14, 72, 505]), (3, 151, 25, 34, 0, [507, 509, 15, 72, 510]), (3, 154, 21, 34, 0, [511, 513, 16, 72, 514]), (3, 159, 24, 33, 0, [516, 518, 17, 72, 519]), (3, 165, 22, 35, 0, [524, 526, 18, 72, 527]), (4, 24, 90, 3, 2, [562, 563, 70, 564]), (5, 49, 36, 49, 0, [127, 128, 129, 73, 130]), (5, 52, 37, 51, 0, [131, 132, 133, 73, 134]), (5, 56, 39, 51, 0, [493, 495, 12, 73, 496]), (5, 59, 42, 52, 0, [569, 571, 19, 73, 572]), (5, 63, 41, 3, 1, [577, 578, 73, 579]), (5, 72, 89, 2, 2, [580, 581, 70, 582]), (5, 76, 32, 41, 0, [583, 584, 585, 75, 586]), (5, 80, 33, 41, 0, [587, 588, 589, 75, 590]), (5, 83, 34, 46, 0, [573, 574, 575, 75, 576]), (5, 87, 40, 50, 0, [704, 566, 567, 73, 568]), (5, 91, 44, 50, 0, [705, 707, 21, 73, 708]), (5, 95, 43, 5, 1, [709, 702, 73, 703]), (7, 27, 6, 25, 0, [352, 353, 354, 76, 355]), (7, 30, 87, 3, 2, [378, 346, 70, 347]), (7, 34, 51, 65, 0, [550, 551, 552, 74, 553]), (7, 47, 54, 67, 0, [603, 604, 605, 74, 606]), (7, 51, 89, 2, 2, [607, 581, 70, 582]), (7, 54, 55, 68, 0, [608, 609, 610, 74, 611]), (7, 58, 9, 28, 0, [612, 613, 614, 76, 615]), (7, 61, 88, 2, 2, [642, 643, 70, 644]), (7, 65, 56, 67, 0, [638, 639, 640, 74, 641]), (7, 68, 90, 3, 2, [683, 563, 70, 564]), (7, 71, 10, 27, 0, [696, 697, 698, 76, 699]), (7, 74, 8, 28, 0, [719, 555, 556, 76, 557]), (7, 77, 165, 2, 1, [720, 721, 85, 722]), (12, 13, 62, 74, 0, [341, 342, 343, 70, 344]), (12, 17, 95, 82, 0, [943, 944, 945, 79, 946]), (12, 20, 63, 75, 0, [357, 358, 359, 70, 360]), (12, 24, 100, 83, 0, [951, 952, 953, 79, 954]), (12, 25, 64, 74, 0, [370, 371, 372, 70, 373])]
def cpM2 : List (Nat × Nat × Nat × Nat × Nat × List Nat) := [(12, 28, 119, 82, 0, [957, 958, 959, 79, 960]), (12, 29, 65, 73, 0, [538, 539, 540, 70, 541]), (12, 33, 120, 81, 0, [1044, 1045, 1046, 79, 1047]), (12, 34, 66, 76, 0, [542, 543, 544, 70, 545]), (12, 38, 126, 84, 0, [1048, 1049, 1050, 79, 1051]), (12, 39, 67, 74, 0, [591, 592, 593, 70, 594]), (12, 42, 129, 82, 0, [1083, 1084, 1085, 79, 1086]), (12, 43, 68, 76, 0, [619, 620, 621, 70, 622]), (12, 46, 131, 84, 0, [1099, 1100, 1101, 79, 1102]), (12, 47, 69, 75, 0, [625, 626, 627, 70, 628]), (12, 51, 133, 83, 0, [1104, 1105, 1106, 79, 1107]), (12, 52, 70, 74, 0, [630, 631, 632, 70, 633]), (12, 55, 135, 82, 0, [1112, 1113, 1114, 79, 1115]), (12, 56, 71, 74, 0, [649, 650, 651, 70, 652]), (12, 59, 137, 82, 0, [1120, 1121, 1122, 79, 1123]), (12, 60, 72, 76, 0, [661, 662, 663, 70, 664]), (12, 63, 140, 84, 0, [1128, 1129, 1130, 79, 1131]), (12, 64, 73, 75, 0, [675, 676, 677, 70, 678]), (12, 67, 141, 83, 0, [1141, 1142, 1143, 79, 1144]), (12, 68, 74, 75, 0, [684, 685, 686, 70, 687]), (12, 71, 142, 83, 0, [1145, 1146, 1147, 79, 1148]), (12, 72, 75, 75, 0, [688, 689, 690, 70, 691]), (12, 75, 148, 83, 0, [1149, 1150, 1151, 79, 1152]), (12, 76, 76, 74, 0, [711, 712, 713, 70, 714]), (12, 79, 150, 82, 0, [1173, 1174, 1175, 79, 1176]), (12, 80, 77, 74, 0, [723, 724, 725, 70, 726]), (12, 83, 151, 82, 0, [1181, 1182, 1183, 79, 1184]), (12, 84, 78, 76, 0, [727, 728, 729, 70, 730]), (12, 87, 152, 84, 0, [1185, 1186, 1187, 79, 1188]), (12, 88, 79, 76, 0, [731, 732, 733, 70, 734]), (12, 91, 157, 84, 0, [1190, 1191, 1192, 79, 1193]), (12, 92, 80, 74, 0, [751, 752, 753, 70, 754]), (12, 95, 158, 82, 0, [1210, 1211, 1212, 79, 1213]), (12, 96, 81, 76, 0, [760, 761, 762, 70, 763]), (12, 99, 160, 84, 0, [1214, 1215, 1216, 79, 1217]), (12, 100, 82, 75, 0, [768, 769, 770, 70, 771]), (12, 103, 162, 83, 0, [1223, 1224, 1225, 79, 1226]), (12, 104, 83, 75, 0, [772, 773, 774, 70, 775]), (12, 107, 163, 83, 0, [1231, 1232, 1233, 79, 1234]), (12, 108, 84, 75, 0, [776, 777, 778, 70, 779]), (12, 111, 164, 83, 0, [1235, 1236, 1237, 79, 1238]), (9, 114, 94, 82, 0, [787, 789, 24, 79, 790]), (9, 123, 92, 3, 1, [948, 949, 79, 950]), (9, 127, 97, 81, 0, [1056, 1058, 45, 79, 1059]), (9, 146, 101, 81, 0, [969, 971, 27, 79, 972]), (9, 159, 103, 81, 0, [983, 985, 30, 79, 986]), (9, 162, 104, 87, 0, [989, 991, 31, 79, 992]), (9, 170, 102, 84, 0, [979, 981, 29, 79, 982])]
def cpM3 : List (Nat × Nat × Nat × Nat × Nat × List Nat) := [(9, 177, 105, 87, 0, [993, 995, 32, 79, 996]), (9, 180, 106, 83, 0, [975, 977, 28, 79, 978]), (9, 184, 107, 82, 0, [1020, 1022, 38, 79, 1023]), (9, 187, 108, 81, 0, [1024, 1026, 39, 79, 1027]), (9, 193, 93, 1, 1, [1009, 1010, 79, 1011]), (9, 197, 112, 81, 0, [1032, 1034, 41, 79, 1035]), (9, 200, 110, 81, 0, [1005, 1007, 35, 79, 1008]), (9, 203, 111, 82, 0, [1012, 1014, 36, 79, 1015]), (9, 206, 109, 82, 0, [1016, 1018, 37, 79, 1019]), (9, 209, 114, 81, 0, [1040, 1042, 43, 79, 1043]), (9, 213, 113, 81, 0, [1028, 1030, 40, 79, 1031]), (9, 216, 115, 81, 0, [1001, 1003, 34, 79, 1004]), (9, 219, 116, 81, 0, [1036, 1038, 42, 79, 1039]), (9, 225, 117, 81, 0, [997, 999, 33, 79, 1000]), (9, 228, 96, 82, 0, [961, 963, 25, 79, 964]), (9, 232, 118, 81, 0, [965, 967, 26, 79, 968]), (9, 235, 121, 2, 1, [1076, 1077, 79, 1078]), (9, 238, 122, 85, 0, [1072, 1074, 48, 79, 1075]), (9, 245, 123, 85, 0, [1068, 1070, 47, 79, 1071]), (9, 248, 124, 84, 0, [1079, 1081, 49, 79, 1082]), (9, 252, 98, 82, 0, [1052, 1054, 44, 79, 1055]), (9, 255, 99, 1, 1, [1060, 1061, 79, 1062]), (9, 258, 125, 84, 0, [1064, 1066, 46, 79, 1067]), (9, 261, 130, 83, 0, [1095, 1097, 52, 79, 1098]), (9, 265, 127, 81, 0, [1087, 1089, 50, 79, 1090]), (9, 268, 128, 81, 0, [1091, 1093, 51, 79, 1094]), (9, 279, 132, 84, 0, [1108, 1110, 53, 79, 1111]), (9, 282, 134, 83, 0, [1116, 1118, 54, 79, 1119]), (9, 285, 136, 82, 0, [1124, 1126, 55, 79, 1127]), (9, 289, 138, 83, 0, [1137, 1139, 57, 79, 1140]), (9, 303, 139, 83, 0, [1133, 1135, 56, 79, 1136]), (9, 310, 144, 84, 0, [1169, 1171, 62, 79, 1172]), (9, 314, 145, 83, 0, [1157, 1159, 59, 79, 1160]), (9, 317, 143, 82, 0, [1161, 1163, 60, 79, 1164]), (9, 320, 146, 84, 0, [1165, 1167, 61, 79, 1168]), (9, 323, 147, 83, 0, [1153, 1155, 58, 79, 1156]), (9, 326, 149, 82, 0, [1177, 1179, 63, 79, 1180]), (9, 331, 153, 83, 0, [1206, 1208, 66, 79, 1209]), (9, 334, 154, 85, 0, [1202, 1204, 65, 79, 1205]), (9, 340, 156, 1, 1, [1194, 1195, 79, 1196]), (9, 343, 155, 84, 0, [1198, 1200, 64, 79, 1201]), (9, 348, 159, 84, 0, [1219, 1221, 67, 79, 1222]), (9, 351, 161, 82, 0, [1227, 1229, 68, 79, 1230])]
def cpM : List (Nat × Nat × Nat × Nat × Nat × List Nat) := cpM0 ++ cpM1 ++ cpM2 ++ cpM3
def cpL : List (Nat × Nat × Int32 × Nat × Nat) := [(6, 19, 255, 1, 369), (12, 18, 0, 2, 1239), (9, 121, 6, 1, 947), (9, 131, 9, 1, 1063), (9, 133, 8, 1, 955), (9, 138, 255, 1, 956), (9, 152, 97, 1, 987), (9, 154, 122, 1, 988), (9, 166, 48, 1, 973), (9, 168, 57, 1, 974), (9, 277, -1, 1, 1103), (9, 301, 2, 1, 1132), (9, 329, 99, 1, 1189), (9, 338, 500, 1, 1197), (9, 346, 18, 1, 1218)]
def cdP : List Nat := [742, 758, 750, 746, 668, 672, 355, 536, 557, 615, 699, 382, 387, 394, 390, 398, 402, 475, 479, 488, 500, 514, 527, 505, 519, 510, 465, 407, 411, 484, 469, 561, 586, 590, 576, 126, 130, 134, 492, 496, 568, 579, 572, 703, 708, 364, 368, 351, 377, 738, 549, 553, 598, 602, 606, 611, 641, 637, 648, 682, 695, 718, 344, 360, 373, 541, 545, 594, 622, 628, 633, 652, 664, 678, 687, 691, 714, 726, 730, 734, 754, 763, 771, 775, 779, 767, 660, 347, 644, 582, 564, 657, 950, 1011, 790, 946, 964, 1059, 1055, 1062, 954, 972, 982, 986, 992, 996, 978, 1023, 1027, 1019, 1008, 1015, 1035, 1031, 1043, 1004, 1039, 1000, 968, 960, 1047, 1078, 1075, 1071, 1082, 1067, 1051, 1090, 1094, 1086, 1098, 1102, 1111, 1107, 1119, 1115, 1127, 1123, 1140, 1136, 1131, 1144, 1148, 1164, 1172, 1160, 1168, 1156, 1152, 1180, 1176, 1184, 1188, 1209, 1205, 1201, 1196, 1193, 1213, 1222, 1217, 1230, 1226, 1234, 1238, 722, 618]
def cpS : List (Nat × String × Nat) := [(70, "else", 532), (99, "if", 471), (104, "least", 403), (106, "most", 460), (108, "as", 461), (121, "and", 530), (127, "or", 531), (129, "not", 480), (144, "who", 501), (149, "gives", 506), (157, "all", 515), (162, "give", 522), (163, "any", 523), (168, "sum", 528), (170, "day", 529), (172, "of", 520), (174, "to", 521)]
end
section
/-! A SMALL MACHINE over worlds without addresses. A value: an int, a long, a cell (side, kind, number), a String constant (99: the script). A world: two sides, each with its numbers in fields, its rows' numbers, and the cells that fields name. -/
abbrev PV : Type := Int32 ⊕ (Int64 ⊕ ((Bool × Nat × Nat) ⊕ Nat))
abbrev vI (x : Int32) : PV := .inl x
abbrev vL (x : Int64) : PV := .inr (.inl x)
abbrev vR (b : Bool) (k i : Nat) : PV := .inr (.inr (.inl (b, k, i)))
abbrev vS (i : Nat) : PV := .inr (.inr (.inr i))
abbrev Key : Type := Bool × Nat × Nat
abbrev Sd : Type := (Nat → Nat → Nat → Int32) × (Nat → Nat → Nat → Int32) × (Nat → Nat → Nat)
abbrev Wd : Type := Sd × Sd
abbrev Ls : Type := List (Option PV)
def wS (w : Wd) (b : Bool) : Sd := match b with
  | false => w.1
  | true => w.2
def wT (w : Wd) (b : Bool) (z : Sd) : Wd := match b with
  | false => (z, w.2)
  | true => (w.1, z)
def up3 (g : Nat → Nat → Nat → Int32) (k i f : Nat) (v : Int32) : Nat → Nat → Nat → Int32 := fun k' i' f' => if k' = k then (if i' = i then (if f' = f then v else g k' i' f') else g k' i' f') else g k' i' f'
def upA (g : Nat → Nat → Nat → Int32) (k i j : Nat) (v : Int32) : Nat → Nat → Nat → Int32 := fun k' i' => if k' = k then (if i' = i then upd (g k' i') j v else g k' i') else g k' i'
def up2 (g : Nat → Nat → Nat) (k i v : Nat) : Nat → Nat → Nat := fun k' i' => if k' = k then (if i' = i then v else g k' i') else g k' i'
def wF (w : Wd) (b : Bool) (k i f : Nat) : Int32 := (wS w b).1 k i f
def wA (w : Wd) (b : Bool) (k i j : Nat) : Int32 := (wS w b).2.1 k i j
def wR (w : Wd) (b : Bool) (k i : Nat) : Nat := (wS w b).2.2 k i
def sF (w : Wd) (b : Bool) (k i f : Nat) (v : Int32) : Wd := wT w b (up3 (wS w b).1 k i f v, (wS w b).2.1, (wS w b).2.2)
def sA (w : Wd) (b : Bool) (k i j : Nat) (v : Int32) : Wd := wT w b ((wS w b).1, upA (wS w b).2.1 k i j v, (wS w b).2.2)
def sR (w : Wd) (b : Bool) (k i v : Nat) : Wd := wT w b ((wS w b).1, (wS w b).2.1, up2 (wS w b).2.2 k i v)
/-- what a kind is: (0, class), (1, length) of ints, (2, length) of booleans, (3, length) of persons -/
def kiC : List (Nat × Nat) := [(0, 8), (0, 6), (1, 120), (0, 3), (1, 121), (1, 121), (1, 121), (0, 7), (3, 6), (0, 2), (1, 128), (0, 5), (1, 25), (1, 25), (1, 25), (1, 40), (1, 40), (1, 40), (1, 80), (0, 4), (0, 1), (0, 0), (1, 80)]
def kiM : List (Nat × Nat) := [(0, 9), (1, 6), (1, 150), (1, 150), (1, 150), (1, 150), (1, 384), (1, 384), (1, 384), (1, 384), (1, 384), (2, 384), (1, 6), (1, 6), (1, 120), (9, 0), (9, 0), (9, 0), (9, 0), (9, 0), (9, 0), (9, 0), (9, 0), (1, 25), (1, 25), (1, 25), (1, 25), (1, 64), (1, 64), (1, 64), (1, 64), (1, 64), (2, 64), (1, 64), (9, 0), (9, 0), (9, 0), (9, 0), (1, 64), (1, 64), (2, 64), (9, 0), (9, 0), (1, 4096), (9, 0), (9, 0), (9, 0), (1, 128), (2, 128), (9, 0)]
def ki (b : Bool) (k : Nat) : Nat × Nat := match b with
  | false => kiC.getD k (9, 0)
  | true => kiM.getD k (9, 0)
/-- what a field is, by class: (0, _) a number, (1, kind) the cell 0 of a kind, (2, kind) the cell of the same number, (3, kind) a cell that changes -/
def fkT : List (List (Nat × Nat)) := [[(1, 7)], [(1, 7), (0, 0), (0, 0), (0, 0)], [(0, 0), (1, 19), (3, 11), (0, 0), (0, 0), (2, 10), (0, 0)], [(1, 1), (1, 4), (1, 5), (1, 6), (0, 0), (0, 0), (0, 0), (0, 0), (0, 0), (0, 0), (0, 0), (3, 11), (0, 0), (0, 0)], [(0, 0), (0, 0), (0, 0), (0, 0)], [(2, 12), (2, 13), (2, 14), (0, 0), (2, 15), (2, 16), (2, 17), (2, 18), (0, 0), (2, 22), (0, 0)], [(1, 2), (0, 0)], [(1, 8), (0, 0)], [(1, 1), (1, 3), (1, 7), (1, 20), (1, 21)],
  [(0, 0), (1, 1), (1, 2), (1, 3), (1, 4), (1, 5), (1, 6), (1, 7), (1, 8), (1, 9), (1, 10), (1, 11), (1, 12), (1, 13), (1, 14), (0, 0), (0, 0), (0, 0), (0, 0), (0, 0), (0, 0), (0, 0), (0, 0), (1, 23), (1, 24), (1, 25), (1, 26), (1, 27), (1, 28), (1, 29), (1, 30), (1, 31), (1, 32), (1, 33), (0, 0), (0, 0), (0, 0), (0, 0), (1, 38), (1, 39), (1, 40), (0, 0), (0, 0), (1, 43), (0, 0), (0, 0), (0, 0), (1, 47), (1, 48), (0, 0)]]
def fk (ci f : Nat) : Nat × Nat := (fkT.getD ci []).getD f (0, 0)
def fval (w : Wd) (b : Bool) (k i ci f : Nat) : PV := match fk ci f with
  | (0, _) => vI (wF w b k i f)
  | (1, t) => vR b t 0
  | (2, t) => vR b t i
  | (_, t) => vR b t (wR w b k i)
def kc (b : Bool) (k a : Nat) : Bool := match ki b k with
  | (0, ci) => Nat.beq ci a
  | _ => false
def csum : List PV → Nat
  | [] => 0
  | .inr (.inl _) :: t => 2 + csum t
  | _ :: t => 1 + csum t
def popN : Nat → List PV → List PV → Option (List PV × List PV)
  | 0, st, acc => some (acc, st)
  | _ + 1, [], _ => none
  | n + 1, v :: st, acc => popN n st (v :: acc)
def tyck : Nat → PV → Bool
  | 0, .inl _ => true
  | 1, .inr (.inr _) => true
  | 2, .inr (.inl _) => true
  | _, _ => false
def rck : Nat → List PV → Bool
  | 0, _ => true
  | c + 1, .inr (.inr (.inl (b, k, _))) :: _ => kc b k c
  | _, _ => false
def lck (ls : Ls) : Nat → Bool
  | 0 => true
  | j + 1 => match ls[j]? with
    | some (some (.inr (.inl _))) => false
    | _ => true
def lenT : List Nat := cpS.map (fun e => e.2.1.length)
def bytT : List (List Int32) := cpS.map (fun e => e.2.1.toList.map (fun ch => Int32.ofNat ch.toNat))
def sLen (i : Nat) : Nat := lenT.getD i 0
def sCh (i j : Nat) : Int32 := (bytT.getD i []).getD j 0
def lcv (v : Int32) : Nat → Int64
  | 2 => 4294967295
  | _ => v.toInt64
def Br (c t f : Prop) : Prop := (c → t) ∧ (¬ c → f)
def Bd (x : Int32) (n : Nat) (P : Prop) : Prop := vp_in x n ∧ P
def zok (x : Int32) : Prop := narrow .boolean (.int x) = .int x
def tswP (x : Int32) (k : Nat → Prop) (d : Nat) : Int → List Nat → Prop
  | _, [] => k d
  | lo, t :: ts => Br (x = Int32.ofInt lo) (k t) (tswP x k d (lo + 1) ts)
/-! the real cells -/
def conc (sa : Nat → Nat) (ad : Key → Nat) : PV → Value
  | .inl x => .int x
  | .inr (.inl x) => .long x
  | .inr (.inr (.inl q)) => .ref (ad q)
  | .inr (.inr (.inr i)) => .ref (sa i)
def nfc (ci : Nat) : Nat := (fkT.getD ci []).length
def cellE (cI cZ cQ : ClassId) (sa : Nat → Nat) (ad : Key → Nat) (w : Wd) (q : Key) : va_E := match ki q.1 q.2.1 with
  | (0, ci) => .inr (ci, (List.range (nfc ci)).map (fun f => conc sa ad (fval w q.1 q.2.1 q.2.2 ci f)))
  | (1, n) => .inl (cI, n, .inl (wA w q.1 q.2.1 q.2.2))
  | (2, n) => .inl (cZ, n, .inl (wA w q.1 q.2.1 q.2.2))
  | (_, n) => .inl (cQ, n, .inr (.inr (.inr (.inr (fun j => some (ad (false, 9, j)))))))
def wl (cI cZ cQ : ClassId) (sa : Nat → Nat) (ad : Key → Nat) (ks : List Key) (w : Wd) : va_W := ks.map (fun q => (ad q, cellE cI cZ cQ sa ad w q))
def vok (ks : List Key) : PV → Prop
  | .inr (.inr (.inl q)) => q ∈ ks
  | .inr (.inr (.inr i)) => i < 17 ∨ i = 99
  | _ => True
def wf (ks : List Key) (w : Wd) : Prop := ks.Nodup ∧ (∀ q ∈ ks, ∀ ci, ki q.1 q.2.1 = (0, ci) → ∀ f, f < nfc ci → vok ks (fval w q.1 q.2.1 q.2.2 ci f)) ∧ ∀ q ∈ ks, ∀ n, ki q.1 q.2.1 = (3, n) → ∀ j, j < n → ((false, 9, j) : Key) ∈ ks
def gtb : List Cond := lw_tbl.filter goodWord
def ywd (y : Nat) : List Cond := .code (yN y) (yC y) (yL y) (yR y) :: gtb
def rmd (d : Nat) : Room := { frames := d, cells := 0, slots := 0, locals := 40 * d }
def nestW (e : Nat × Nat × Nat × Nat × Nat × List Nat) : Cond := .methodLinkNest (cN e.1) e.2.1 (yN e.2.2.1) "IfYouWill"
def StrX (sa sv : Nat → Nat) (A : Nat → Prop) (U : State) : Prop := vk_S 17 lenT bytT sa sv A U U.heap ∧ (∀ (i : Nat) (e : Nat × String × Nat), cpS[i]? = some e → vk_R RX3 e.1 e.2.1 (sa i) U) ∧ va_Z "java/lang/String" "COMPACT_STRINGS" "Z" (.int 1) A U U.heap ∧ va_Zq "jdk/internal/util/Preconditions" "SIOOBE_FORMATTER" "Ljava/util/function/BiFunction;" A U U.heap
def atys (cI cZ cQ : ClassId) : List (ClassId × FieldType) := [(cI, .int), (cZ, .boolean), (cQ, .object RX2)]
def Cx (D : va_G) (cI cZ cQ : ClassId) (sa sv : Nat → Nat) (A : Nat → Prop) (U : State) : Prop := va_K D vwCl (atys cI cZ cQ) U ∧ (∀ e ∈ cpM, e.2.2.2.2.1 = 2 → va_Nw (nestW e) U) ∧ StrX sa sv A U
/-! contracts, over any real machine -/
def Pre0 (D : va_G) (cI cZ cQ : ClassId) (sa sv : Nat → Nat) (ad : Key → Nat) (ks : List Key) (w : Wd) (sz : Nat) (U : State) : Prop := U.heap.size = sz ∧ va_P D vwCl (wl cI cZ cQ sa ad ks w) U.heap ∧ va_D (fun _ => True) (wl cI cZ cQ sa ad ks w) ∧ Cx D cI cZ cQ sa sv (va_A (wl cI cZ cQ sa ad ks w) sz) U
def Post0 (D : va_G) (cI cZ cQ : ClassId) (sa : Nat → Nat) (ad : Key → Nat) (ks : List Key) (Q : Wd → Option PV → Prop) (A : Nat → Prop) : Array Value → State → Outcome → State → Prop := fun _ st oc t => (∃ (w' : Wd) (r : Option PV), oc = .returned (r.map (conc sa ad)) ∧ Q w' r ∧ wf ks w' ∧ (∀ v, r = some v → vok ks v) ∧ va_P D vwCl (wl cI cZ cQ sa ad ks w') t.heap) ∧ va_F A st t
def Ctr (d y : Nat) (av : List PV) (w : Wd) (Q : Wd → Option PV → Prop) : Prop := ∀ (l : Launch) (D : va_G) (cI cZ cQ : ClassId) (sa sv : Nat → Nat) (ad : Key → Nat) (ks : List Key) (sz : Nat), wf ks w → (∀ v ∈ av, vok ks v) → Met l (yN y) (ywd y) (rmd d) (va_Pc (av.map (conc sa ad)) (Pre0 D cI cZ cQ sa sv ad ks w sz)) (Post0 D cI cZ cQ sa ad ks Q (va_A (wl cI cZ cQ sa ad ks w) sz)) 0 0 (va_A (wl cI cZ cQ sa ad ks w) sz)
def Inv (d y : Nat) (av : List PV) (w : Wd) (K : Wd → Option PV → Prop) : Prop := ∃ (d' : Nat) (Q' : Wd → Option PV → Prop), d' < d ∧ Ctr d' y av w Q' ∧ ∀ w' r, Q' w' r → K w' r
/-! a frame under way -/
def Lok (sa : Nat → Nat) (ad : Key → Nat) (n : Nat) (ls' : Array Slot) (ls : Ls) : Prop := ls'.size = n ∧ lv_wf ls' ∧ ∀ (i : Nat) (v : PV), ls[i]? = some (some v) → ls'[i]? = some (.val (conc sa ad v))
def Wx (s : State) (D : va_G) (cI cZ cQ : ClassId) (sa : Nat → Nat) (ad : Key → Nat) (ks : List Key) (A : Nat → Prop) (w : Wd) (H : Heap) (locs : List Loc) : Prop := wf ks w ∧ va_P D vwCl (wl cI cZ cQ sa ad ks w) H ∧ va_D A (wl cI cZ cQ sa ad ks w) ∧ va_S A s.heap H locs
def rtk (y pc : Nat) : Option PV → Prop
  | none => decode (yC y) pc = .ok (.return_, 1) ∧ yR y = none
  | some (.inl x) => decode (yC y) pc = .ok (.ireturn, 1) ∧ ∃ ty, yR y = some ty ∧ narrow ty (.int x) = .int x
  | some (.inr (.inr (.inl _))) => decode (yC y) pc = .ok (.areturn, 1) ∧ ∃ n, yR y = some (.object n)
  | _ => False
def Sx (scr : Option (Nat × (Nat → Int32))) (sa : Nat → Nat) (A : Nat → Prop) (s : State) : Prop := match scr with
  | none => True
  | some (L, xs) => va_X (sa 99) L xs s s.heap ∧ sa 99 < s.heap.size ∧ ¬ A (sa 99)
def Fr (y d : Nat) (p : Program) (R : Room) (s : State) (m : MethodId) (args : Array Value) (c : Code) (cells slots : Nat) : Prop := p.tables.exec = Jvm.exec ∧ c.code = yC y ∧ c.maxLocals = yL y ∧ s.vm.findClass (cN (yO y)) = some m.cls ∧ (∀ w ∈ gtb, w.before args s = true) ∧ (d ≤ R.frames ∧ 40 * d ≤ R.locals ∧ cells ≤ R.cells ∧ slots ≤ R.slots)
def Go (d y : Nat) (scr : Option (Nat × (Nat → Int32))) (pc : Nat) (ls : Ls) (st : List PV) (w : Wd) (Q : Wd → Option PV → Prop) : Prop :=
  ∀ (p : Program) (l : Launch) (e : Env) (R : Room) (s : State) (m : MethodId) (args : Array Value) (below : List Frame) (meth : Method) (c : Code) (cells slots : Nat) (Qf : State → Prop) (D : va_G) (cI cZ cQ : ClassId) (sa sv : Nat → Nat) (ad : Key → Nat) (ks : List Key) (A : Nat → Prop),
    Fr y d p R s m args c cells slots → Cx D cI cZ cQ sa sv A s → Sx scr sa A s → (∀ q, s.heap.size ≤ q → A q) →
    (∀ (pc' : Nat) (w' : Wd) (r : Option PV) (H : Heap) (locs : List Loc) (ls' : Array Slot), Wx s D cI cZ cQ sa ad ks A w' H locs → (∀ v, r = some v → vok ks v) → rtk y pc' r → Q w' r → W p l e R s m args below meth c H locs cells slots Qf (F0 m pc' ls' (r.toList.map (conc sa ad)))) →
    ∀ (H : Heap) (locs : List Loc) (ls' : Array Slot), Wx s D cI cZ cQ sa ad ks A w H locs → Lok sa ad (yL y) ls' ls → (∀ v, some v ∈ ls → vok ks v) → (∀ v ∈ st, vok ks v) → W p l e R s m args below meth c H locs cells slots Qf (F0 m pc ls' (st.map (conc sa ad)))
/-- one instruction, as a proposition about what comes behind it -/
def step1 (d y : Nat) (scr : Option (Nat × (Nat → Int32))) (pc : Nat) (ls : Ls) (st : List PV) (w : Wd) (Q : Wd → Option PV → Prop) (kk : Nat → Ls → List PV → Wd → Prop) : Prop := match ins y pc with
  | (0, _, a, b, nx) => (match ls[a]? with
    | some (some v) => (match tyck b v with
      | true => kk nx ls (v :: st) w
      | false => False)
    | _ => False)
  | (1, _, a, f, nx) => (match st with
    | .inr (.inr (.inl (b, k, i))) :: t => (match kc b k a with
      | true => kk nx ls (fval w b k i a f :: t) w
      | false => False)
    | _ => False)
  | (2, v, _, _, nx) => kk nx ls (vI v :: st) w
  | (3, _, a, n, nx) => (match popN (n % 8) st [] with
    | some (av, t) => (match rck (n / 8) av && Nat.ble (csum t) 8 with
      | true => Inv d a av w (fun w' r => match r with
        | none => kk nx ls t w'
        | some v => kk nx ls (v :: t) w')
      | false => False)
    | none => False)
  | (4, _, a, _, _) => kk a ls st w
  | (5, _, _, _, _) => (match st with
    | [.inl x] => Q w (some (vI x))
    | _ => False)
  | (6, _, a, _, nx) => (match st with
    | .inl x :: t => Br (x = 0) (kk a ls t w) (kk nx ls t w)
    | _ => False)
  | (7, _, _, _, nx) => (match st with
    | .inl x :: .inr (.inr (.inl (b, k, i))) :: t => (match ki b k with
      | (1, n) => Bd x n (kk nx ls (vI (wA w b k i x.toNatClampNeg) :: t) w)
      | _ => False)
    | .inl x :: .inr (.inr (.inr 99)) :: t => (match scr with
      | some (n, xs) => Bd x n (kk nx ls (vI (xs x.toNatClampNeg) :: t) w)
      | none => False)
    | _ => False)
  | (8, _, a, f, nx) => (match st with
    | v :: .inr (.inr (.inl (b, k, i))) :: t => (match kc b k a with
      | true => (match fk a f, v with
        | (0, _), .inl x => kk nx ls t (sF w b k i f x)
        | (3, c), .inr (.inr (.inl (b', k', i'))) => (match b == b' && Nat.beq c k' with
          | true => kk nx ls t (sR w b k i i')
          | false => False)
        | _, _ => False)
      | false => False)
    | _ => False)
  | (9, _, _, _, nx) => (match st with
    | .inl y :: .inl x :: t => kk nx ls (vI (x + y) :: t) w
    | _ => False)
  | (10, _, a, b, nx) => (match st with
    | v :: t => (match tyck b v && (lck ls a && Nat.blt b 2) with
      | true => kk nx (ls.set a (some v)) t w
      | false => False)
    | _ => False)
  | (11, _, a, _, nx) => (match st with
    | .inl x :: t => Br (x = 0) (kk nx ls t w) (kk a ls t w)
    | _ => False)
  | (12, _, a, _, nx) => (match st with
    | .inl y :: .inl x :: t => Br (y ≤ x) (kk a ls t w) (kk nx ls t w)
    | _ => False)
  | (13, v, a, _, nx) => (match ls[a]? with
    | some (some (.inl x)) => (match lck ls a with
      | true => kk nx (ls.set a (some (vI (x + v)))) st w
      | false => False)
    | _ => False)
  | (14, _, a, _, nx) => (match st with
    | .inl y :: .inl x :: t => Br (x = y) (kk nx ls t w) (kk a ls t w)
    | _ => False)
  | (15, _, a, _, nx) => (match st with
    | .inl y :: .inl x :: t => Br (x = y) (kk a ls t w) (kk nx ls t w)
    | _ => False)
  | (16, _, _, _, nx) => (match st with
    | .inl v :: .inl x :: .inr (.inr (.inl (b, k, i))) :: t => (match ki b k with
      | (1, n) => Bd x n (kk nx ls t (sA w b k i x.toNatClampNeg v))
      | _ => False)
    | _ => False)
  | (17, _, _, _, nx) => (match st with
    | .inl y :: .inl x :: t => kk nx ls (vI (x - y) :: t) w
    | _ => False)
  | (18, _, _, _, nx) => (match st with
    | .inl y :: .inl x :: t => kk nx ls (vI (x * y) :: t) w
    | _ => False)
  | (19, _, _, _, _) => (match st with
    | [] => Q w none
    | _ => False)
  | (20, _, _, _, nx) => (match st with
    | v :: t => (match v with
      | .inr (.inl _) => False
      | _ => kk nx ls (v :: v :: t) w)
    | _ => False)
  | (21, _, _, _, nx) => (match st with
    | .inl x :: t => kk nx ls (vL x.toInt64 :: t) w
    | _ => False)
  | (22, _, a, _, nx) => (match st with
    | .inl y :: .inl x :: t => Br (x < y) (kk a ls t w) (kk nx ls t w)
    | _ => False)
  | (23, _, _, _, nx) => (match st with
    | .inl y :: .inl x :: t => kk nx ls (vI (x <<< (y &&& 31)) :: t) w
    | _ => False)
  | (24, v, a, _, nx) => kk nx ls (vL (lcv v a) :: st) w
  | (25, _, _, _, nx) => (match st with
    | .inl y :: .inl x :: t => kk nx ls (vI (x &&& y) :: t) w
    | _ => False)
  | (26, _, a, _, nx) => kk nx ls (vS a :: st) w
  | (27, _, a, _, nx) => (match st with
    | .inl y :: .inl x :: t => Br (y < x) (kk a ls t w) (kk nx ls t w)
    | _ => False)
  | (28, _, _, _, nx) => (match st with
    | .inl x :: .inr (.inr (.inl (b, k, _))) :: t => (match ki b k with
      | (3, n) => Bd x n (kk nx ls (vR false 9 x.toNatClampNeg :: t) w)
      | _ => False)
    | _ => False)
  | (29, _, a, _, nx) => (match st with
    | .inl y :: .inl x :: t => Br (x ≤ y) (kk a ls t w) (kk nx ls t w)
    | _ => False)
  | (30, _, _, _, nx) => (match st with
    | .inl y :: .inl x :: t => kk nx ls (vI (x >>> (y &&& 31)) :: t) w
    | _ => False)
  | (31, _, a, _, nx) => (match st with
    | .inl x :: t => Br (x ≤ 0) (kk a ls t w) (kk nx ls t w)
    | _ => False)
  | (32, _, a, _, nx) => (match st with
    | .inl x :: t => Br (0 ≤ x) (kk a ls t w) (kk nx ls t w)
    | _ => False)
  | (33, _, _, _, nx) => (match st with
    | .inl y :: .inl x :: t => kk nx ls (vI (x ||| y) :: t) w
    | _ => False)
  | (34, _, _, _, nx) => (match st with
    | .inl v :: .inl x :: .inr (.inr (.inl (b, k, i))) :: t => (match ki b k with
      | (2, n) => Bd x n (kk nx ls t (sA w b k i x.toNatClampNeg (vp_nar .boolean v)))
      | _ => False)
    | _ => False)
  | (35, _, _, _, nx) => (match st with
    | .inl x :: .inr (.inr (.inl (b, k, i))) :: t => (match ki b k with
      | (2, n) => Bd x n (kk nx ls (vI (wA w b k i x.toNatClampNeg) :: t) w)
      | _ => False)
    | _ => False)
  | (36, _, a, _, nx) => (match st with
    | .inl x :: t => Br (x < 0) (kk a ls t w) (kk nx ls t w)
    | _ => False)
  | (37, _, a, b, _) => (match st with
    | .inl x :: t => (match tsT.getD a (0, []) with
      | (lo, ts) => tswP x (fun q => kk q ls t w) b lo ts)
    | _ => False)
  | (38, _, _, _, nx) => (match st with
    | .inl y :: .inl x :: t => kk nx ls (vI (x ^^^ y) :: t) w
    | _ => False)
  | (39, _, _, _, nx) => (match st with
    | v :: u :: t => (match v, u with
      | .inr (.inl _), _ => False
      | _, .inr (.inl _) => False
      | _, _ => kk nx ls (v :: u :: v :: u :: t) w)
    | _ => False)
  | (40, _, _, _, nx) => (match st with
    | .inr (.inl y) :: .inr (.inl x) :: t => kk nx ls (vL (x &&& y) :: t) w
    | _ => False)
  | (41, _, _, _, nx) => (match st with
    | .inl y :: .inr (.inl x) :: t => kk nx ls (vL (x >>> (y.toInt64 &&& 63)) :: t) w
    | _ => False)
  | (42, _, _, _, nx) => (match st with
    | .inl y :: .inr (.inl x) :: t => kk nx ls (vL (x <<< (y.toInt64 &&& 63)) :: t) w
    | _ => False)
  | (43, _, _, _, nx) => (match st with
    | .inr (.inl y) :: .inr (.inl x) :: t => kk nx ls (vL (x ||| y) :: t) w
    | _ => False)
  | (44, _, _, _, nx) => (match st with
    | .inr (.inl y) :: .inr (.inl x) :: t => kk nx ls (vI (lg_cmp x y) :: t) w
    | _ => False)
  | (45, _, _, _, nx) => (match st with
    | .inr (.inl x) :: t => kk nx ls (vI x.toInt32 :: t) w
    | _ => False)
  | (46, _, _, _, nx) => (match st with
    | .inl y :: .inl x :: t => kk nx ls (vI (x.toUInt32 >>> (y.toUInt32 &&& Int32.toUInt32 31)).toInt32 :: t) w
    | _ => False)
  | (47, _, a, _, nx) => (match st with
    | .inl x :: t => Br (0 < x) (kk a ls t w) (kk nx ls t w)
    | _ => False)
  | (48, _, _, _, nx) => (match st with
    | .inr (.inr (.inl (b, k, _))) :: t => (match ki b k with
      | (1, n) => kk nx ls (vI (nI n) :: t) w
      | _ => False)
    | .inr (.inr (.inr 99)) :: t => (match scr with
      | some (n, _) => kk nx ls (vI (nI n) :: t) w
      | none => False)
    | _ => False)
  | (49, _, _, _, nx) => (match st with
    | .inl y :: .inl x :: t => ¬ y = 0 ∧ kk nx ls (vI (x / y) :: t) w
    | _ => False)
  | (50, _, _, _, nx) => (match st with
    | .inl y :: .inl x :: t => ¬ y = 0 ∧ kk nx ls (vI (x - x / y * y) :: t) w
    | _ => False)
  | (51, _, _, _, _) => (match st with
    | [.inr (.inr (.inl q))] => Q w (some (.inr (.inr (.inl q))))
    | _ => False)
  | (52, _, _, _, nx) => (match st with
    | .inr (.inr (.inr i)) :: t => i < 17 ∧ 3 < d ∧ kk nx ls (vI (nI (sLen i)) :: t) w
    | _ => False)
  | (53, _, _, _, nx) => (match st with
    | .inl x :: .inr (.inr (.inr i)) :: t => i < 17 ∧ 6 < d ∧ Bd x (sLen i) (kk nx ls (vI (sCh i x.toNatClampNeg) :: t) w)
    | _ => False)
  | (54, _, _, _, _) => (match st with
    | [.inl x] => zok x ∧ Q w (some (vI x))
    | _ => False)
  | _ => False
/-- many instructions, up to the places where one stops -/
def ev (d y : Nat) (scr : Option (Nat × (Nat → Int32))) (stops : List Nat) (Q : Wd → Option PV → Prop) : Nat → Nat → Ls → List PV → Wd → Prop
  | 0, pc, ls, st, w => Go d y scr pc ls st w Q
  | n + 1, pc, ls, st, w => step1 d y scr pc ls st w Q (fun pc' ls' st' w' => match stops.contains pc' with
    | true => Go d y scr pc' ls' st' w' Q
    | false => ev d y scr stops Q n pc' ls' st' w')
end
section
/-! the tables, held against the bytes and the words -/
def cpFhas (own idx ci f : Nat) : Bool := cpF.any (fun e => Nat.beq e.1 own && (Nat.beq e.2.1 idx && (Nat.beq e.2.2.1 ci && Nat.beq e.2.2.2.1 f)))
def cpMhas (own idx m n k : Nat) : Bool := cpM.any (fun e => Nat.beq e.1 own && (Nat.beq e.2.1 idx && (Nat.beq e.2.2.1 m && (Nat.beq e.2.2.2.1 n && Nat.beq e.2.2.2.2.1 k))))
def cpLhas (own idx : Nat) (v : Int32) (a : Nat) : Bool := cpL.any (fun e => Nat.beq e.1 own && (Nat.beq e.2.1 idx && (decide (e.2.2.1 = v) && Nat.beq e.2.2.2.1 a)))
def clI (ci : Nat) : vw_C := vwCl.getD ci (RX0, TX0, 1)
def tyI (ci : Nat) : Nat → FieldType := [tyX0, tyX1, tyX2, tyX3, tyX4, tyX5, tyX6, tyX7, tyX8, tyX9].getD ci tyX0
def isI (i : Instr) (j : Instr) : Bool := decide (i = j)
def rel (y pc : Nat) (i : Instr) (n : Nat) (I : In) : Bool := match I with
  | (0, _, a, b, _) => (match i with
    | .iload_n k => Nat.beq k.val a && (Nat.beq n 1 && Nat.beq b 0)
    | .aload_n k => Nat.beq k.val a && (Nat.beq n 1 && Nat.beq b 1)
    | .lload_n k => Nat.beq k.val a && (Nat.beq n 1 && Nat.beq b 2)
    | .iload k => Nat.beq k a && (Nat.beq n 2 && Nat.beq b 0)
    | .aload k => Nat.beq k a && (Nat.beq n 2 && Nat.beq b 1)
    | .lload k => Nat.beq k a && (Nat.beq n 2 && Nat.beq b 2)
    | _ => false)
  | (1, _, a, f, _) => (match i with
    | .getfield idx => cpFhas (yO y) idx a f && Nat.beq n 3
    | _ => false)
  | (2, v, _, _, _) => (match i with
    | .iconst k => decide (Int32.ofInt k = v) && Nat.beq n 1
    | .bipush k => decide ((Int8.ofInt k).toInt32 = v) && Nat.beq n 2
    | .sipush k => decide ((Int16.ofInt k).toInt32 = v) && Nat.beq n 3
    | _ => false)
  | (3, _, a, k, _) => (match i with
    | .invokevirtual idx => cpMhas (yO y) idx a k 0 && Nat.beq n 3
    | .invokestatic idx => (cpMhas (yO y) idx a k 1 || cpMhas (yO y) idx a k 2) && Nat.beq n 3
    | _ => false)
  | (4, _, a, _, _) => (match i with
    | .goto off => decide ((pc : Int) + off = (a : Int)) && Nat.beq n 3
    | _ => false)
  | (5, _, _, _, _) => isI i .ireturn && (Nat.beq n 1 && decide (yR y = some .int))
  | (6, _, a, _, _) => (match i with
    | .ifCond .eq off => decide ((pc : Int) + off = (a : Int)) && Nat.beq n 3
    | _ => false)
  | (7, _, _, _, _) => isI i .iaload && Nat.beq n 1
  | (8, _, a, f, _) => (match i with
    | .putfield idx => cpFhas (yO y) idx a f && (Nat.beq n 3 && (decide (((clI a).2.1 f).2.2.2 = false) && (match fk a f with
      | (0, _) => decide (tyI a f = .int)
      | (3, _) => decide (tyI a f = .object RX5)
      | _ => false)))
    | _ => false)
  | (9, _, _, _, _) => isI i .iadd && Nat.beq n 1
  | (10, _, a, b, _) => (match i with
    | .istore_n k => Nat.beq k.val a && (Nat.beq n 1 && (Nat.beq b 0 && Nat.blt a (yL y)))
    | .astore_n k => Nat.beq k.val a && (Nat.beq n 1 && (Nat.beq b 1 && Nat.blt a (yL y)))
    | .istore k => Nat.beq k a && (Nat.beq n 2 && (Nat.beq b 0 && Nat.blt a (yL y)))
    | .astore k => Nat.beq k a && (Nat.beq n 2 && (Nat.beq b 1 && Nat.blt a (yL y)))
    | _ => false)
  | (11, _, a, _, _) => (match i with
    | .ifCond .ne off => decide ((pc : Int) + off = (a : Int)) && Nat.beq n 3
    | _ => false)
  | (12, _, a, _, _) => (match i with
    | .if_icmp .ge off => decide ((pc : Int) + off = (a : Int)) && Nat.beq n 3
    | _ => false)
  | (13, v, a, _, _) => (match i with
    | .iinc k m => Nat.beq k a && (decide (Int32.ofInt m = v) && (Nat.beq n 3 && Nat.blt a (yL y)))
    | _ => false)
  | (14, _, a, _, _) => (match i with
    | .if_icmp .ne off => decide ((pc : Int) + off = (a : Int)) && Nat.beq n 3
    | _ => false)
  | (15, _, a, _, _) => (match i with
    | .if_icmp .eq off => decide ((pc : Int) + off = (a : Int)) && Nat.beq n 3
    | _ => false)
  | (16, _, _, _, _) => isI i .iastore && Nat.beq n 1
  | (17, _, _, _, _) => isI i .isub && Nat.beq n 1
  | (18, _, _, _, _) => isI i .imul && Nat.beq n 1
  | (19, _, _, _, _) => isI i .return_ && (Nat.beq n 1 && decide (yR y = none))
  | (20, _, _, _, _) => isI i .dup && Nat.beq n 1
  | (21, _, _, _, _) => isI i .i2l && Nat.beq n 1
  | (22, _, a, _, _) => (match i with
    | .if_icmp .lt off => decide ((pc : Int) + off = (a : Int)) && Nat.beq n 3
    | _ => false)
  | (23, _, _, _, _) => isI i .ishl && Nat.beq n 1
  | (24, v, a, _, _) => (match i with
    | .lconst k => decide (Int64.ofNat k.val = lcv v a) && Nat.beq n 1
    | .ldc2_w idx => cpLhas (yO y) idx v a && Nat.beq n 3
    | _ => false)
  | (25, _, _, _, _) => isI i .iand && Nat.beq n 1
  | (26, _, a, _, _) => (match i with
    | .ldc idx => Nat.beq (yO y) 3 && (Nat.beq n 2 && (match cpS[a]? with
      | some e => Nat.beq e.1 idx
      | none => false))
    | _ => false)
  | (27, _, a, _, _) => (match i with
    | .if_icmp .gt off => decide ((pc : Int) + off = (a : Int)) && Nat.beq n 3
    | _ => false)
  | (28, _, _, _, _) => isI i .aaload && Nat.beq n 1
  | (29, _, a, _, _) => (match i with
    | .if_icmp .le off => decide ((pc : Int) + off = (a : Int)) && Nat.beq n 3
    | _ => false)
  | (30, _, _, _, _) => isI i .ishr && Nat.beq n 1
  | (31, _, a, _, _) => (match i with
    | .ifCond .le off => decide ((pc : Int) + off = (a : Int)) && Nat.beq n 3
    | _ => false)
  | (32, _, a, _, _) => (match i with
    | .ifCond .ge off => decide ((pc : Int) + off = (a : Int)) && Nat.beq n 3
    | _ => false)
  | (33, _, _, _, _) => isI i .ior && Nat.beq n 1
  | (34, _, _, _, _) => isI i .bastore && Nat.beq n 1
  | (35, _, _, _, _) => isI i .baload && Nat.beq n 1
  | (36, _, a, _, _) => (match i with
    | .ifCond .lt off => decide ((pc : Int) + off = (a : Int)) && Nat.beq n 3
    | _ => false)
  | (37, _, a, b, _) => (match i with
    | .tableswitch dflt lo hi offs => decide ((pc : Int) + dflt = (b : Int)) && (match tsT.getD a (0, []) with
      | (lo', ts) => decide (lo' = lo) && (decide (0 ≤ lo) && (decide (hi = lo + (ts.length : Int) - 1) && (decide (offs.toList.map (fun o => (pc : Int) + o) = ts.map Int.ofNat) && decide (lo + (ts.length : Int) < 1000)))))
    | _ => false)
  | (38, _, _, _, _) => isI i .ixor && Nat.beq n 1
  | (39, _, _, _, _) => isI i .dup2 && Nat.beq n 1
  | (40, _, _, _, _) => isI i .land && Nat.beq n 1
  | (41, _, _, _, _) => isI i .lshr && Nat.beq n 1
  | (42, _, _, _, _) => isI i .lshl && Nat.beq n 1
  | (43, _, _, _, _) => isI i .lor && Nat.beq n 1
  | (44, _, _, _, _) => isI i .lcmp && Nat.beq n 1
  | (45, _, _, _, _) => isI i .l2i && Nat.beq n 1
  | (46, _, _, _, _) => isI i .iushr && Nat.beq n 1
  | (47, _, a, _, _) => (match i with
    | .ifCond .gt off => decide ((pc : Int) + off = (a : Int)) && Nat.beq n 3
    | _ => false)
  | (48, _, _, _, _) => isI i .arraylength && Nat.beq n 1
  | (49, _, _, _, _) => isI i .idiv && Nat.beq n 1
  | (50, _, _, _, _) => isI i .irem && Nat.beq n 1
  | (51, _, _, _, _) => isI i .areturn && (Nat.beq n 1 && decide (yR y = some (.object RX5)))
  | (52, _, _, _, _) => isI i (.invokevirtual 175) && (Nat.beq n 3 && Nat.beq (yO y) 3)
  | (53, _, _, _, _) => isI i (.invokevirtual 180) && (Nat.beq n 3 && Nat.beq (yO y) 3)
  | (54, _, _, _, _) => isI i .ireturn && (Nat.beq n 1 && decide (yR y = some .boolean))
  | (63, _, _, _, _) => true
  | _ => false
def chk (y pc : Nat) : Bool := match ins y pc with
  | (63, _, _, _, _) => true
  | (o, v, a, b, nx) => (match decode (yC y) pc with
    | .ok (i, n) => Nat.beq nx (pc + n) && rel y pc i n (o, v, a, b, nx)
    | .error _ => false)
def chkM (y : Nat) : Bool := (List.range (plen y)).all (chk y)
end
section
set_option maxRecDepth 100000 in
theorem ck_0 : (List.range 8).all (fun j => chkM (0 + j)) = true := by decide +kernel
set_option maxRecDepth 100000 in
theorem ck_1 : (List.range 8).all (fun j => chkM (8 + j)) = true := by decide +kernel
set_option maxRecDepth 100000 in
theorem ck_2 : (List.range 8).all (fun j => chkM (16 + j)) = true := by decide +kernel
set_option maxRecDepth 100000 in
theorem ck_3 : (List.range 8).all (fun j => chkM (24 + j)) = true := by decide +kernel
set_option maxRecDepth 100000 in
theorem ck_4 : (List.range 8).all (fun j => chkM (32 + j)) = true := by decide +kernel
set_option maxRecDepth 100000 in
theorem ck_5 : (List.range 8).all (fun j => chkM (40 + j)) = true := by decide +kernel
set_option maxRecDepth 100000 in
theorem ck_6 : (List.range 8).all (fun j => chkM (48 + j)) = true := by decide +kernel
end
section
set_option maxRecDepth 100000 in
theorem ck_7 : (List.range 8).all (fun j => chkM (56 + j)) = true := by decide +kernel
set_option maxRecDepth 100000 in
theorem ck_8 : (List.range 8).all (fun j => chkM (64 + j)) = true := by decide +kernel
set_option maxRecDepth 100000 in
theorem ck_9 : (List.range 8).all (fun j => chkM (72 + j)) = true := by decide +kernel
set_option maxRecDepth 100000 in
theorem ck_10 : (List.range 8).all (fun j => chkM (80 + j)) = true := by decide +kernel
set_option maxRecDepth 100000 in
theorem ck_11 : (List.range 8).all (fun j => chkM (88 + j)) = true := by decide +kernel
end
section
set_option maxRecDepth 100000 in
theorem ck_12 : (List.range 8).all (fun j => chkM (96 + j)) = true := by decide +kernel
set_option maxRecDepth 100000 in
theorem ck_13 : (List.range 8).all (fun j => chkM (104 + j)) = true := by decide +kernel
set_option maxRecDepth 100000 in
theorem ck_14 : (List.range 8).all (fun j => chkM (112 + j)) = true := by decide +kernel
set_option maxRecDepth 100000 in
theorem ck_15 : (List.range 8).all (fun j => chkM (120 + j)) = true := by decide +kernel
end
section
set_option maxRecDepth 100000 in
theorem ck_16 : (List.range 8).all (fun j => chkM (128 + j)) = true := by decide +kernel
set_option maxRecDepth 100000 in
theorem ck_17 : (List.range 8).all (fun j => chkM (136 + j)) = true := by decide +kernel
set_option maxRecDepth 100000 in
theorem ck_18 : (List.range 8).all (fun j => chkM (144 + j)) = true := by decide +kernel
set_option maxRecDepth 100000 in
theorem ck_19 : (List.range 8).all (fun j => chkM (152 + j)) = true := by decide +kernel
end
section
set_option maxRecDepth 100000 in
theorem ck_20 : (List.range 7).all (fun j => chkM (160 + j)) = true := by decide +kernel
set_option maxRecDepth 100000 in
theorem ck_L0 : (List.range 112).all (fun j => chk 167 (0 + j)) = true := by decide +kernel
set_option maxRecDepth 100000 in
theorem ck_L1 : (List.range 112).all (fun j => chk 167 (112 + j)) = true := by decide +kernel
set_option maxRecDepth 100000 in
theorem ck_L2 : (List.range 112).all (fun j => chk 167 (224 + j)) = true := by decide +kernel
set_option maxRecDepth 100000 in
theorem ck_L3 : (List.range 112).all (fun j => chk 167 (336 + j)) = true := by decide +kernel
end
section
set_option maxRecDepth 100000 in
theorem ck_L4 : (List.range 112).all (fun j => chk 167 (448 + j)) = true := by decide +kernel
set_option maxRecDepth 100000 in
theorem ck_L5 : (List.range 112).all (fun j => chk 167 (560 + j)) = true := by decide +kernel
set_option maxRecDepth 100000 in
theorem ck_L6 : (List.range 112).all (fun j => chk 167 (672 + j)) = true := by decide +kernel
set_option maxRecDepth 100000 in
theorem ck_L7 : (List.range 112).all (fun j => chk 167 (784 + j)) = true := by decide +kernel
set_option maxRecDepth 100000 in
theorem ck_L8 : (List.range 112).all (fun j => chk 167 (896 + j)) = true := by decide +kernel
end
section
/-! words by their places -/
theorem gtb_of {w : Cond} {n : Nat} (h : lw_tbl[n]? = some w) (hg : goodWord w = true) : w ∈ gtb := List.mem_filter.mpr ⟨List.mem_of_getElem? h, hg⟩
theorem gtb_good : GoodIn gtb gtb := fun _ h => ⟨h, good_of_word (List.mem_filter.mp h).2⟩
def atB (n : Nat) (w : Cond) : Bool := decide (lw_tbl[n]? = some w) && goodWord w
theorem atB_gtb {n : Nat} {w : Cond} (h : atB n w = true) : w ∈ gtb := by
  simp only [atB, Bool.and_eq_true, decide_eq_true_eq] at h
  exact gtb_of h.1 h.2
def okF (e : Nat × Nat × Nat × Nat × Nat) : Bool := match e with
  | (own, idx, ci, f, p) => atB p (.fieldLink (cN own) idx (clI ci).1 ((clI ci).2.1 f).2.1 ((clI ci).2.1 f).2.2.1) && (Nat.blt f (clI ci).2.2 && (decide (((clI ci).2.1 f).1 = (clI ci).1) && Nat.blt ci 10))
set_option maxRecDepth 100000 in
theorem cpF_all : cpF.all okF = true := by decide +kernel
def okM (e : Nat × Nat × Nat × Nat × Nat × List Nat) : Bool := match e with
  | (own, idx, m, n, kind, ps) => (decide ((yN m).cls ≠ "java/lang/invoke/MethodHandle") && decide ((yN m).cls ≠ "java/lang/invoke/VarHandle")) && (Nat.ble (yL m) 20 && (match kind, ps with
    | 0, [p0, p1, p2, p3, p4] => atB p0 (.methodLink (cN own) idx (yN m)) && (atB p1 (.instanceMethod (yN m)) && (atB p2 (.selects (yN m).cls (yN m) (yN m)) && (atB p3 (.initialized (yN m).cls) && (Nat.blt m 167 && (decide ((parseMethodDescriptor (yN m).desc).map (fun d => d.parameters.length) = some (n % 8 - 1)) && (Nat.beq (n / 8) (yO m + 1) && (Nat.blt 0 (n % 8) && (Nat.blt (yO m) 10 && decide ((clI (yO m)).1 = (yN m).cls)))))))))
    | 1, [p0, p1, p2, p3] => atB p0 (.methodLink (cN own) idx (yN m)) && (atB p1 (.static (yN m)) && (atB p2 (.initialized (yN m).cls) && (Nat.blt m 167 && (decide ((parseMethodDescriptor (yN m).desc).map (fun d => d.parameters.length) = some n) && Nat.blt n 8))))
    | 2, [p0, p1, p2, p3] => decide (lw_tbl[p0]? = some (nestW e)) && (atB p1 (.static (yN m)) && (atB p2 (.initialized (yN m).cls) && (Nat.blt m 167 && (decide ((parseMethodDescriptor (yN m).desc).map (fun d => d.parameters.length) = some n) && Nat.blt n 8))))
    | _, _ => false))
set_option maxRecDepth 100000 in
theorem cd_all : (List.range 167).map (fun m => Cond.code (yN m) (yC m) (yL m) (yR m)) = cdP.filterMap (fun i => lw_tbl[i]?) := rfl
theorem cd_of {m : Nat} (h : m < 167) : Cond.code (yN m) (yC m) (yL m) (yR m) ∈ gtb := by
  have h1 : Cond.code (yN m) (yC m) (yL m) (yR m) ∈ (List.range 167).map (fun m => Cond.code (yN m) (yC m) (yL m) (yR m)) := List.mem_map.mpr ⟨m, List.mem_range.mpr h, rfl⟩
  rw [cd_all] at h1
  obtain ⟨i, -, hi⟩ := List.mem_filterMap.mp h1
  exact gtb_of hi rfl
set_option maxRecDepth 100000 in
theorem cpM_all : cpM.all okM = true := by decide +kernel
set_option maxRecDepth 100000 in
theorem cpL_all : cpL.all (fun e => atB e.2.2.2.2 (.constantLong (cN e.1) e.2.1 (lcv e.2.2.1 e.2.2.2.1))) = true := by decide +kernel
def uwB (C : String) (T : u_T) (N : Nat) : Bool := (u_ws C T N).all (fun w => decide (w ∈ lw_tbl) && goodWord w)
theorem uwB_ok {C : String} {T : u_T} {N : Nat} (h : uwB C T N = true) : ∀ w ∈ u_ws C T N, w ∈ gtb := by
  intro w hw
  have h1 := List.all_eq_true.mp h w hw
  simp only [Bool.and_eq_true, decide_eq_true_eq] at h1
  exact List.mem_filter.mpr h1
set_option maxRecDepth 100000 in
theorem uw_0 : uwB RX0 TX0 1 = true := by decide +kernel
set_option maxRecDepth 100000 in
theorem uw_1 : uwB RX1 TX1 4 = true := by decide +kernel
set_option maxRecDepth 100000 in
theorem uw_2 : uwB RX2 TX2 7 = true := by decide +kernel
set_option maxRecDepth 100000 in
theorem uw_3 : uwB RX3 TX3 14 = true := by decide +kernel
set_option maxRecDepth 100000 in
theorem uw_4 : uwB RX4 TX4 4 = true := by decide +kernel
set_option maxRecDepth 100000 in
theorem uw_5 : uwB RX5 TX5 11 = true := by decide +kernel
set_option maxRecDepth 100000 in
theorem uw_6 : uwB RX6 TX6 2 = true := by decide +kernel
set_option maxRecDepth 100000 in
theorem uw_7 : uwB RX7 TX7 2 = true := by decide +kernel
set_option maxRecDepth 100000 in
theorem uw_8 : uwB RX8 TX8 5 = true := by decide +kernel
set_option maxRecDepth 100000 in
theorem uw_9 : uwB RX9 TX9 50 = true := by decide +kernel
/-- all that is to know of a class -/
theorem cl_ok : ∀ ci, ci < 10 → vwCl[ci]? = some (clI ci) ∧ nfc ci = (clI ci).2.2 ∧ (∀ w ∈ u_ws (clI ci).1 (clI ci).2.1 (clI ci).2.2, w ∈ gtb) ∧ (∀ k, k < (clI ci).2.2 → parseFieldDescriptor ((clI ci).2.1 k).2.2.1 = some (tyI ci k)) ∧ (∀ a, a < (clI ci).2.2 → ∀ b, b < (clI ci).2.2 → a ≠ b → ((clI ci).2.1 a).2.1 ≠ ((clI ci).2.1 b).2.1)
  | 0, _ => ⟨rfl, rfl, uwB_ok uw_0, tyX0_ok, nmX0⟩
  | 1, _ => ⟨rfl, rfl, uwB_ok uw_1, tyX1_ok, nmX1⟩
  | 2, _ => ⟨rfl, rfl, uwB_ok uw_2, tyX2_ok, nmX2⟩
  | 3, _ => ⟨rfl, rfl, uwB_ok uw_3, tyX3_ok, nmX3⟩
  | 4, _ => ⟨rfl, rfl, uwB_ok uw_4, tyX4_ok, nmX4⟩
  | 5, _ => ⟨rfl, rfl, uwB_ok uw_5, tyX5_ok, nmX5⟩
  | 6, _ => ⟨rfl, rfl, uwB_ok uw_6, tyX6_ok, nmX6⟩
  | 7, _ => ⟨rfl, rfl, uwB_ok uw_7, tyX7_ok, nmX7⟩
  | 8, _ => ⟨rfl, rfl, uwB_ok uw_8, tyX8_ok, nmX8⟩
  | 9, _ => ⟨rfl, rfl, uwB_ok uw_9, tyX9_ok, nmX9⟩
  | n + 10, h => absurd h (by omega)
theorem nbeq {a b : Nat} (h : Nat.beq a b = true) : a = b := Nat.eq_of_beq_eq_true h
theorem nblt {a b : Nat} (h : Nat.blt a b = true) : a < b := Nat.le_of_ble_eq_true h
theorem cpF_of {own idx ci f : Nat} (h : cpFhas own idx ci f = true) : Cond.fieldLink (cN own) idx (clI ci).1 ((clI ci).2.1 f).2.1 ((clI ci).2.1 f).2.2.1 ∈ gtb ∧ f < (clI ci).2.2 ∧ ((clI ci).2.1 f).1 = (clI ci).1 ∧ ci < 10 := by
  obtain ⟨⟨o, x, c, g, p⟩, he, hb⟩ := List.any_eq_true.mp h
  simp only [Bool.and_eq_true] at hb
  obtain ⟨h1, h2, h3, h4⟩ := hb
  obtain rfl := nbeq h1; obtain rfl := nbeq h2; obtain rfl := nbeq h3; obtain rfl := nbeq h4
  have hk := List.all_eq_true.mp cpF_all _ he
  simp only [okF, Bool.and_eq_true, decide_eq_true_eq] at hk
  exact ⟨atB_gtb hk.1, nblt hk.2.1, hk.2.2.1, nblt hk.2.2.2⟩
theorem cpM_of {own idx m n k : Nat} (h : cpMhas own idx m n k = true) : ∃ ps, (own, idx, m, n, k, ps) ∈ cpM ∧ okM (own, idx, m, n, k, ps) = true := by
  obtain ⟨⟨o, x, c, g, kd, ps⟩, he, hb⟩ := List.any_eq_true.mp h
  simp only [Bool.and_eq_true] at hb
  obtain ⟨h1, h2, h3, h4, h5⟩ := hb
  obtain rfl := nbeq h1; obtain rfl := nbeq h2; obtain rfl := nbeq h3; obtain rfl := nbeq h4; obtain rfl := nbeq h5
  exact ⟨ps, he, List.all_eq_true.mp cpM_all _ he⟩
theorem cpM_0 {own idx m n : Nat} (h : cpMhas own idx m n 0 = true) : ((yN m).cls ≠ "java/lang/invoke/MethodHandle" ∧ (yN m).cls ≠ "java/lang/invoke/VarHandle") ∧ yL m ≤ 20 ∧ (Cond.methodLink (cN own) idx (yN m) ∈ gtb ∧ Cond.instanceMethod (yN m) ∈ gtb ∧ Cond.selects (yN m).cls (yN m) (yN m) ∈ gtb ∧ Cond.initialized (yN m).cls ∈ gtb ∧ Cond.code (yN m) (yC m) (yL m) (yR m) ∈ gtb) ∧ (parseMethodDescriptor (yN m).desc).map (fun d => d.parameters.length) = some (n % 8 - 1) ∧ n / 8 = yO m + 1 ∧ 0 < n % 8 ∧ yO m < 10 ∧ (clI (yO m)).1 = (yN m).cls := by
  obtain ⟨ps, -, hk⟩ := cpM_of h
  match ps, hk with
  | [p0, p1, p2, p3, p4], hk =>
    simp only [okM, Bool.and_eq_true, decide_eq_true_eq] at hk
    obtain ⟨h1, h2, h3, h4, h5, h6, h7, h8, h9, h10, h11, h12⟩ := hk
    exact ⟨h1, Nat.le_of_ble_eq_true h2, ⟨atB_gtb h3, atB_gtb h4, atB_gtb h5, atB_gtb h6, cd_of (nblt h7)⟩, h8, nbeq h9, nblt h10, nblt h11, h12⟩
  | [], hk => simp [okM] at hk
  | [_], hk => simp [okM] at hk
  | [_, _], hk => simp [okM] at hk
  | [_, _, _], hk => simp [okM] at hk
  | [_, _, _, _], hk => simp [okM] at hk
  | _ :: _ :: _ :: _ :: _ :: _ :: _, hk => simp [okM] at hk
theorem cpM_1 {own idx m n : Nat} (h : cpMhas own idx m n 1 = true) : ((yN m).cls ≠ "java/lang/invoke/MethodHandle" ∧ (yN m).cls ≠ "java/lang/invoke/VarHandle") ∧ yL m ≤ 20 ∧ (Cond.methodLink (cN own) idx (yN m) ∈ gtb ∧ Cond.static (yN m) ∈ gtb ∧ Cond.initialized (yN m).cls ∈ gtb ∧ Cond.code (yN m) (yC m) (yL m) (yR m) ∈ gtb) ∧ (parseMethodDescriptor (yN m).desc).map (fun d => d.parameters.length) = some n ∧ n < 8 := by
  obtain ⟨ps, -, hk⟩ := cpM_of h
  match ps, hk with
  | [p0, p1, p2, p3], hk =>
    simp only [okM, Bool.and_eq_true, decide_eq_true_eq] at hk
    obtain ⟨h1, h2, h3, h4, h5, h6, h7, h8⟩ := hk
    exact ⟨h1, Nat.le_of_ble_eq_true h2, ⟨atB_gtb h3, atB_gtb h4, atB_gtb h5, cd_of (nblt h6)⟩, h7, nblt h8⟩
  | [], hk => simp [okM] at hk
  | [_], hk => simp [okM] at hk
  | [_, _], hk => simp [okM] at hk
  | [_, _, _], hk => simp [okM] at hk
  | _ :: _ :: _ :: _ :: _ :: _, hk => simp [okM] at hk
theorem cpM_2 {own idx m n : Nat} (h : cpMhas own idx m n 2 = true) : ∃ ps, (own, idx, m, n, 2, ps) ∈ cpM ∧ ((yN m).cls ≠ "java/lang/invoke/MethodHandle" ∧ (yN m).cls ≠ "java/lang/invoke/VarHandle") ∧ yL m ≤ 20 ∧ (Cond.static (yN m) ∈ gtb ∧ Cond.initialized (yN m).cls ∈ gtb ∧ Cond.code (yN m) (yC m) (yL m) (yR m) ∈ gtb) ∧ (parseMethodDescriptor (yN m).desc).map (fun d => d.parameters.length) = some n ∧ n < 8 := by
  obtain ⟨ps, he, hk⟩ := cpM_of h
  refine ⟨ps, he, ?_⟩
  match ps, hk with
  | [p0, p1, p2, p3], hk =>
    simp only [okM, Bool.and_eq_true, decide_eq_true_eq] at hk
    obtain ⟨h1, h2, h3, h4, h5, h6, h7, h8⟩ := hk
    exact ⟨h1, Nat.le_of_ble_eq_true h2, ⟨atB_gtb h4, atB_gtb h5, cd_of (nblt h6)⟩, h7, nblt h8⟩
  | [], hk => simp [okM] at hk
  | [_], hk => simp [okM] at hk
  | [_, _], hk => simp [okM] at hk
  | [_, _, _], hk => simp [okM] at hk
  | _ :: _ :: _ :: _ :: _ :: _, hk => simp [okM] at hk
theorem cpL_of {own idx : Nat} {v : Int32} {a : Nat} (h : cpLhas own idx v a = true) : Cond.constantLong (cN own) idx (lcv v a) ∈ gtb := by
  obtain ⟨⟨o, x, u, z, p⟩, he, hb⟩ := List.any_eq_true.mp h
  simp only [Bool.and_eq_true, decide_eq_true_eq] at hb
  obtain ⟨h1, h2, h3, h4⟩ := hb
  obtain rfl := nbeq h1; obtain rfl := nbeq h2; subst h3; obtain rfl := nbeq h4
  exact atB_gtb (List.all_eq_true.mp cpL_all _ he)
/-! every place of every method is held against its bytes -/
theorem ck_in {k y n : Nat} (h : (List.range n).all (fun j => chkM (k + j)) = true) (h1 : k ≤ y) (h2 : y < k + n) : chkM y = true := by
  have := List.all_eq_true.mp h (y - k) (List.mem_range.mpr (by omega))
  rw [show k + (y - k) = y by omega] at this
  exact this
theorem ck_inL {k pc n : Nat} (h : (List.range n).all (fun j => chk 167 (k + j)) = true) (h1 : k ≤ pc) (h2 : pc < k + n) : chk 167 pc = true := by
  have := List.all_eq_true.mp h (pc - k) (List.mem_range.mpr (by omega))
  rw [show k + (pc - k) = pc by omega] at this
  exact this
theorem ins_out {y pc : Nat} (h : plen y ≤ pc) : ins y pc = zz := by
  unfold plen at h
  unfold ins
  have h1 : ((pgT.getD (y / 16) []).getD (y % 16) []).length ≤ pc / 16 := by omega
  rw [List.getD_eq_getElem?_getD (l := (pgT.getD (y / 16) []).getD (y % 16) []), List.getElem?_eq_none h1]
  rfl
theorem chk_zz {y pc : Nat} (h : ins y pc = zz) : chk y pc = true := by
  unfold chk
  rw [h]
  rfl
theorem chkM_of {y : Nat} (h : chkM y = true) (pc : Nat) : chk y pc = true := by
  by_cases hp : pc < plen y
  · exact List.all_eq_true.mp h pc (List.mem_range.mpr hp)
  · exact chk_zz (ins_out (by omega))
theorem plen_L : plen 167 = 912 := by decide +kernel
theorem chk_all (y pc : Nat) : chk y pc = true := by
  by_cases h : y < 168
  · by_cases h7 : y = 167
    · subst h7
      by_cases hp : pc < plen 167
      · rw [plen_L] at hp
        rcases Nat.lt_or_ge pc 112 with g | g
        · exact ck_inL ck_L0 (Nat.zero_le _) (by omega)
        rcases Nat.lt_or_ge pc 224 with g | g
        · exact ck_inL ck_L1 (by omega) (by omega)
        rcases Nat.lt_or_ge pc 336 with g | g
        · exact ck_inL ck_L2 (by omega) (by omega)
        rcases Nat.lt_or_ge pc 448 with g | g
        · exact ck_inL ck_L3 (by omega) (by omega)
        rcases Nat.lt_or_ge pc 560 with g | g
        · exact ck_inL ck_L4 (by omega) (by omega)
        rcases Nat.lt_or_ge pc 672 with g | g
        · exact ck_inL ck_L5 (by omega) (by omega)
        rcases Nat.lt_or_ge pc 784 with g | g
        · exact ck_inL ck_L6 (by omega) (by omega)
        rcases Nat.lt_or_ge pc 896 with g | g
        · exact ck_inL ck_L7 (by omega) (by omega)
        · exact ck_inL ck_L8 (by omega) (by omega)
      · exact chk_zz (ins_out (by omega))
    · refine chkM_of ?_ pc
      have hd : y / 8 < 21 := by omega
      have hy : 8 * (y / 8) ≤ y ∧ y < 8 * (y / 8) + 8 := by omega
      generalize y / 8 = k at hd hy
      match k, hd with
      | 0, _ => exact ck_in ck_0 (by omega) (by omega)
      | 1, _ => exact ck_in ck_1 (by omega) (by omega)
      | 2, _ => exact ck_in ck_2 (by omega) (by omega)
      | 3, _ => exact ck_in ck_3 (by omega) (by omega)
      | 4, _ => exact ck_in ck_4 (by omega) (by omega)
      | 5, _ => exact ck_in ck_5 (by omega) (by omega)
      | 6, _ => exact ck_in ck_6 (by omega) (by omega)
      | 7, _ => exact ck_in ck_7 (by omega) (by omega)
      | 8, _ => exact ck_in ck_8 (by omega) (by omega)
      | 9, _ => exact ck_in ck_9 (by omega) (by omega)
      | 10, _ => exact ck_in ck_10 (by omega) (by omega)
      | 11, _ => exact ck_in ck_11 (by omega) (by omega)
      | 12, _ => exact ck_in ck_12 (by omega) (by omega)
      | 13, _ => exact ck_in ck_13 (by omega) (by omega)
      | 14, _ => exact ck_in ck_14 (by omega) (by omega)
      | 15, _ => exact ck_in ck_15 (by omega) (by omega)
      | 16, _ => exact ck_in ck_16 (by omega) (by omega)
      | 17, _ => exact ck_in ck_17 (by omega) (by omega)
      | 18, _ => exact ck_in ck_18 (by omega) (by omega)
      | 19, _ => exact ck_in ck_19 (by omega) (by omega)
      | 20, _ => exact ck_in ck_20 (by omega) (by omega)
      | n + 21, h => exact absurd h (by omega)
  · refine chk_zz (ins_out ?_)
    have hl : pgT.getD (y / 16) [] = [] ∨ (pgT.getD (y / 16) []).length ≤ y % 16 := by
      rcases Nat.lt_or_ge y 176 with g | g
      · right
        have : y / 16 = 10 := by omega
        rw [this]
        have e : (pgT.getD 10 []).length = 8 := by decide +kernel
        omega
      · left
        have e : pgT.length = 11 := by decide +kernel
        rw [List.getD_eq_getElem?_getD, List.getElem?_eq_none (by omega)]
        rfl
    unfold plen
    rcases hl with hl | hl
    · rw [hl]
      simp
    · rw [List.getD_eq_getElem?_getD (l := pgT.getD (y / 16) []), List.getElem?_eq_none hl]
      simp
theorem get_rel {y pc o : Nat} {v : Int32} {a b nx : Nat} (h : ins y pc = (o, v, a, b, nx)) (ho : o ≠ 63) : ∃ (i : Instr) (n : Nat), decode (yC y) pc = .ok (i, n) ∧ nx = pc + n ∧ rel y pc i n (o, v, a, b, nx) = true := by
  have hc := chk_all y pc
  unfold chk at hc
  rw [h] at hc
  split at hc
  · rename_i heq
    simp only [Prod.mk.injEq] at heq
    exact absurd heq.1 ho
  · rename_i heq
    simp only [Prod.mk.injEq] at heq
    obtain ⟨rfl, rfl, rfl, rfl, rfl⟩ := heq
    split at hc
    · rename_i i n hd
      simp only [Bool.and_eq_true] at hc
      exact ⟨i, n, hd, nbeq hc.1, hc.2⟩
    · cases hc
theorem isI_of {i j : Instr} {n k : Nat} (h : (isI i j && Nat.beq n k) = true) : i = j ∧ n = k := by
  simp only [isI, Bool.and_eq_true, decide_eq_true_eq] at h
  exact ⟨h.1, nbeq h.2⟩
end
section
/-! worlds: what a change leaves as it was -/
theorem wF_sF (w : Wd) (b b' : Bool) (k i f k' i' f' : Nat) (x : Int32) : wF (sF w b k i f x) b' k' i' f' = if b' = b ∧ k' = k ∧ i' = i ∧ f' = f then x else wF w b' k' i' f' := by
  by_cases h1 : k' = k <;> by_cases h2 : i' = i <;> by_cases h3 : f' = f <;> cases b <;> cases b' <;> simp [wF, sF, wS, wT, up3, h1, h2, h3]
theorem wA_sF (w : Wd) (b b' : Bool) (k i f k' i' : Nat) (x : Int32) : wA (sF w b k i f x) b' k' i' = wA w b' k' i' := by
  cases b <;> cases b' <;> rfl
theorem wR_sF (w : Wd) (b b' : Bool) (k i f k' i' : Nat) (x : Int32) : wR (sF w b k i f x) b' k' i' = wR w b' k' i' := by
  cases b <;> cases b' <;> rfl
theorem wF_sA (w : Wd) (b b' : Bool) (k i j k' i' f' : Nat) (x : Int32) : wF (sA w b k i j x) b' k' i' f' = wF w b' k' i' f' := by
  cases b <;> cases b' <;> rfl
theorem wR_sA (w : Wd) (b b' : Bool) (k i j k' i' : Nat) (x : Int32) : wR (sA w b k i j x) b' k' i' = wR w b' k' i' := by
  cases b <;> cases b' <;> rfl
theorem wA_sA (w : Wd) (b b' : Bool) (k i j k' i' : Nat) (x : Int32) : wA (sA w b k i j x) b' k' i' = if b' = b ∧ k' = k ∧ i' = i then upd (wA w b k i) j x else wA w b' k' i' := by
  by_cases h1 : k' = k <;> by_cases h2 : i' = i <;> cases b <;> cases b' <;> (funext q; simp [wA, sA, wS, wT, upA, h1, h2] <;> rfl)
theorem wF_sR (w : Wd) (b b' : Bool) (k i v k' i' f' : Nat) : wF (sR w b k i v) b' k' i' f' = wF w b' k' i' f' := by
  cases b <;> cases b' <;> rfl
theorem wA_sR (w : Wd) (b b' : Bool) (k i v k' i' : Nat) : wA (sR w b k i v) b' k' i' = wA w b' k' i' := by
  cases b <;> cases b' <;> rfl
theorem wR_sR (w : Wd) (b b' : Bool) (k i v k' i' : Nat) : wR (sR w b k i v) b' k' i' = if b' = b ∧ k' = k ∧ i' = i then v else wR w b' k' i' := by
  by_cases h1 : k' = k <;> by_cases h2 : i' = i <;> cases b <;> cases b' <;> simp [wR, sR, wS, wT, up2, h1, h2]
theorem wl_set {ks : List Key} {f g : Key → Nat × va_E} {n : Nat} {q : Key} {e : Nat × va_E} (hn : ks.Nodup) (hq : ks[n]? = some q) (he : g q = e) (h : ∀ q', q' ≠ q → g q' = f q') : (ks.map f).set n e = ks.map g := by
  apply List.ext_getElem?
  intro j
  have hl := (List.getElem?_eq_some_iff.mp hq).1
  by_cases hj : j = n
  · subst hj
    rw [List.getElem?_set_self (by simpa using hl), List.getElem?_map, hq]
    simp [he]
  · rw [List.getElem?_set_ne (Ne.symm hj), List.getElem?_map, List.getElem?_map]
    cases hk : ks[j]? with
    | none => rfl
    | some q' =>
      have hne : q' ≠ q := by
        intro hqq
        subst hqq
        exact hj ((List.getElem?_inj hl hn).mp (hq.trans hk.symm)).symm
      simp [h q' hne]
theorem range_set {n f : Nat} {g g' : Nat → Value} (hf : f < n) (h : ∀ j, j ≠ f → g' j = g j) : ((List.range n).map g).set f (g' f) = (List.range n).map g' := by
  apply List.ext_getElem?
  intro j
  by_cases hj : j = f
  · subst hj
    rw [List.getElem?_set_self (by simpa using hf)]
    simp [hf]
  · rw [List.getElem?_set_ne (Ne.symm hj), List.getElem?_map, List.getElem?_map]
    by_cases hl : j < n
    · simp [hl, h j hj]
    · simp [hl]
section WLS
variable {cI cZ cQ : ClassId} {sa : Nat → Nat} {ad : Key → Nat} {ks : List Key} {w : Wd}
theorem wl_at {q : Key} (hq : q ∈ ks) : ∃ n : Nat, ks[n]? = some q ∧ (wl cI cZ cQ sa ad ks w)[n]? = some (ad q, cellE cI cZ cQ sa ad w q) := by
  obtain ⟨n, hn⟩ := List.getElem?_of_mem hq
  exact ⟨n, hn, by simp [wl, hn]⟩
theorem cellE_obj {b : Bool} {k i ci : Nat} (h : ki b k = (0, ci)) : cellE cI cZ cQ sa ad w (b, k, i) = .inr (ci, (List.range (nfc ci)).map (fun f => conc sa ad (fval w b k i ci f))) := by
  simp [cellE, h]
theorem cellE_int {b : Bool} {k i n : Nat} (h : ki b k = (1, n)) : cellE cI cZ cQ sa ad w (b, k, i) = .inl (cI, n, .inl (wA w b k i)) := by
  simp [cellE, h]
theorem cellE_bool {b : Bool} {k i n : Nat} (h : ki b k = (2, n)) : cellE cI cZ cQ sa ad w (b, k, i) = .inl (cZ, n, .inl (wA w b k i)) := by
  simp [cellE, h]
theorem cellE_per {b : Bool} {k i n : Nat} (h : ki b k = (3, n)) : cellE cI cZ cQ sa ad w (b, k, i) = .inl (cQ, n, .inr (.inr (.inr (.inr (fun j => some (ad (false, 9, j))))))) := by
  simp [cellE, h]
theorem kc_of {b : Bool} {k a : Nat} (h : kc b k a = true) : ki b k = (0, a) := by
  unfold kc at h
  split at h
  · rename_i heq
    rw [heq, nbeq h]
  · cases h
theorem fval_sF {b b' : Bool} {k i f k' i' ci f' : Nat} {x : Int32} (h : ¬ (b' = b ∧ k' = k ∧ i' = i ∧ f' = f)) : fval (sF w b k i f x) b' k' i' ci f' = fval w b' k' i' ci f' := by
  unfold fval
  rw [wF_sF, if_neg h, wR_sF]
theorem cellE_sF {b : Bool} {k i f : Nat} {x : Int32} {q : Key} (h : q ≠ (b, k, i)) : cellE cI cZ cQ sa ad (sF w b k i f x) q = cellE cI cZ cQ sa ad w q := by
  obtain ⟨b', k', i'⟩ := q
  have hn : ∀ f', ¬ (b' = b ∧ k' = k ∧ i' = i ∧ f' = f) := fun f' z => h (by rw [z.1, z.2.1, z.2.2.1])
  unfold cellE
  simp only [wA_sF, fval_sF (hn _)]
theorem cellE_sR {b : Bool} {k i v : Nat} {q : Key} (h : q ≠ (b, k, i)) : cellE cI cZ cQ sa ad (sR w b k i v) q = cellE cI cZ cQ sa ad w q := by
  obtain ⟨b', k', i'⟩ := q
  have hn : ¬ (b' = b ∧ k' = k ∧ i' = i) := fun z => h (by rw [z.1, z.2.1, z.2.2])
  unfold cellE fval
  simp only [wA_sR, wF_sR, wR_sR, if_neg hn]
theorem cellE_sA {b : Bool} {k i j : Nat} {x : Int32} {q : Key} (h : q ≠ (b, k, i)) : cellE cI cZ cQ sa ad (sA w b k i j x) q = cellE cI cZ cQ sa ad w q := by
  obtain ⟨b', k', i'⟩ := q
  have hn : ¬ (b' = b ∧ k' = k ∧ i' = i) := fun z => h (by rw [z.1, z.2.1, z.2.2])
  unfold cellE fval
  simp only [wA_sA, wF_sA, wR_sA, if_neg hn]
theorem wl_sF {n : Nat} {b : Bool} {k i ci f : Nat} {x : Int32} {t : Nat} (hn : ks.Nodup) (hq : ks[n]? = some (b, k, i)) (hk : ki b k = (0, ci)) (hf : f < nfc ci) (hs : fk ci f = (0, t)) : (wl cI cZ cQ sa ad ks w).set n (ad (b, k, i), .inr (ci, ((List.range (nfc ci)).map (fun f => conc sa ad (fval w b k i ci f))).set f (.int x))) = wl cI cZ cQ sa ad ks (sF w b k i f x) := by
  unfold wl
  refine wl_set hn hq ?_ (fun q' hne => by rw [cellE_sF hne])
  rw [cellE_obj hk]
  congr 3
  have e : (.int x : Value) = (fun f' => conc sa ad (fval (sF w b k i f x) b k i ci f')) f := by
    show _ = conc sa ad (fval (sF w b k i f x) b k i ci f)
    unfold fval
    rw [hs, wF_sF]
    simp [conc]
  rw [e]
  refine (range_set (g' := fun f' => conc sa ad (fval (sF w b k i f x) b k i ci f')) hf (fun j hj => ?_)).symm
  rw [fval_sF (fun z => hj z.2.2.2)]
theorem fk_tags : ∀ ci, ci < 10 → ∀ f, f < nfc ci → (fk ci f).1 ≤ 3 := by decide +kernel
theorem fval_sR {b b' : Bool} {k i v k' i' ci f' : Nat} (h : (fk ci f').1 < 3) : fval (sR w b k i v) b' k' i' ci f' = fval w b' k' i' ci f' := by
  unfold fval
  rw [wF_sR]
  revert h
  generalize fk ci f' = z
  obtain ⟨g, t⟩ := z
  intro h
  match g, h with
  | 0, _ => rfl
  | 1, _ => rfl
  | 2, _ => rfl
  | n + 3, h => exact absurd h (by simp)
theorem fk_one : ∀ ci, ci < 10 → ∀ f, f < nfc ci → ∀ g, g < nfc ci → (fk ci f).1 = 3 → (fk ci g).1 = 3 → f = g := by decide +kernel
theorem wl_sR {n : Nat} {b : Bool} {k i ci f v : Nat} {t : Nat} (hn : ks.Nodup) (hq : ks[n]? = some (b, k, i)) (hk : ki b k = (0, ci)) (hci : ci < 10) (hf : f < nfc ci) (hs : fk ci f = (3, t)) : (wl cI cZ cQ sa ad ks w).set n (ad (b, k, i), .inr (ci, ((List.range (nfc ci)).map (fun f => conc sa ad (fval w b k i ci f))).set f (.ref (ad (b, t, v))))) = wl cI cZ cQ sa ad ks (sR w b k i v) := by
  unfold wl
  refine wl_set hn hq ?_ (fun q' hne => by rw [cellE_sR hne])
  rw [cellE_obj hk]
  congr 3
  have e : (.ref (ad (b, t, v)) : Value) = (fun f' => conc sa ad (fval (sR w b k i v) b k i ci f')) f := by
    show _ = conc sa ad (fval (sR w b k i v) b k i ci f)
    unfold fval
    rw [hs, wR_sR]
    simp [conc]
  rw [e]
  apply List.ext_getElem?
  intro j
  by_cases hj : j = f
  · subst hj
    rw [List.getElem?_set_self (by simpa using hf)]
    simp [hf]
  · rw [List.getElem?_set_ne (Ne.symm hj), List.getElem?_map, List.getElem?_map]
    by_cases hl : j < nfc ci
    · simp only [List.getElem?_range hl, Option.map_some]
      rw [fval_sR]
      have h3 : (fk ci j).1 ≠ 3 := fun z => hj (fk_one ci hci j hl f hf z (by rw [hs]))
      have h4 := fk_tags ci hci j hl
      omega
    · simp [hl]
theorem wl_sAi {n : Nat} {b : Bool} {k i j nn : Nat} {x : Int32} (hn : ks.Nodup) (hq : ks[n]? = some (b, k, i)) (hk : ki b k = (1, nn)) : (wl cI cZ cQ sa ad ks w).set n (ad (b, k, i), .inl (cI, nn, .inl (upd (wA w b k i) j x))) = wl cI cZ cQ sa ad ks (sA w b k i j x) := by
  unfold wl
  refine wl_set hn hq ?_ (fun q' hne => by rw [cellE_sA hne])
  rw [cellE_int hk, wA_sA]
  simp
theorem wl_sAz {n : Nat} {b : Bool} {k i j nn : Nat} {x : Int32} (hn : ks.Nodup) (hq : ks[n]? = some (b, k, i)) (hk : ki b k = (2, nn)) : (wl cI cZ cQ sa ad ks w).set n (ad (b, k, i), .inl (cZ, nn, .inl (upd (wA w b k i) j x))) = wl cI cZ cQ sa ad ks (sA w b k i j x) := by
  unfold wl
  refine wl_set hn hq ?_ (fun q' hne => by rw [cellE_sA hne])
  rw [cellE_bool hk, wA_sA]
  simp
theorem wf_sF {b : Bool} {k i f : Nat} {x : Int32} (h : wf ks w) : wf ks (sF w b k i f x) := by
  refine ⟨h.1, fun q hq ci hk g hg => ?_, h.2.2⟩
  have h1 := h.2.1 q hq ci hk g hg
  unfold fval at h1 ⊢
  rw [wR_sF]
  revert h1
  generalize fk ci g = z
  obtain ⟨o, t⟩ := z
  match o with
  | 0 => exact fun _ => trivial
  | 1 => exact fun z => z
  | 2 => exact fun z => z
  | n + 3 => exact fun z => z
theorem wf_sA {b : Bool} {k i j : Nat} {x : Int32} (h : wf ks w) : wf ks (sA w b k i j x) := by
  refine ⟨h.1, fun q hq ci hk g hg => ?_, h.2.2⟩
  have h1 := h.2.1 q hq ci hk g hg
  unfold fval at h1 ⊢
  rw [wR_sA, wF_sA]
  exact h1
theorem wf_sR {b : Bool} {k i v ci f t : Nat} (h : wf ks w) (hki : ki b k = (0, ci)) (hci : ci < 10) (hf : f < nfc ci) (hs : fk ci f = (3, t)) (hv : ((b, t, v) : Key) ∈ ks) : wf ks (sR w b k i v) := by
  refine ⟨h.1, fun q hq ci' hk g hg => ?_, h.2.2⟩
  have h1 := h.2.1 q hq ci' hk g hg
  obtain ⟨b', k', i'⟩ := q
  by_cases he : (b', k', i') = (b, k, i)
  · simp only [Prod.mk.injEq] at he
    obtain ⟨rfl, rfl, rfl⟩ := he
    have hc : ci' = ci := by
      have := hk.symm.trans hki
      simp at this
      exact this
    subst hc
    by_cases hgf : g = f
    · subst hgf
      show vok ks (fval _ _ _ _ _ _)
      unfold fval
      rw [hs, wR_sR]
      simp [vok, hv]
    · have h3 : (fk ci' g).1 < 3 := by
        have h4 := fk_tags ci' hci g hg
        have h5 : (fk ci' g).1 ≠ 3 := fun z => hgf (fk_one ci' hci g hg f hf z (by rw [hs]))
        omega
      rw [fval_sR h3]
      exact h1
  · have hn : ¬ (b' = b ∧ k' = k ∧ i' = i) := fun z => he (by rw [z.1, z.2.1, z.2.2])
    unfold fval at h1 ⊢
    simp only [wF_sR, wR_sR, if_neg hn]
    exact h1
theorem va_D_w {A : Nat → Prop} {w' : Wd} (h : va_D A (wl cI cZ cQ sa ad ks w)) : va_D A (wl cI cZ cQ sa ad ks w') := by
  have key : ∀ (j : Nat) (q : Nat × va_E), (wl cI cZ cQ sa ad ks w')[j]? = some q → ∃ q0, (wl cI cZ cQ sa ad ks w)[j]? = some q0 ∧ q0.1 = q.1 := by
    intro j q hq
    unfold wl at hq ⊢
    rw [List.getElem?_map] at hq ⊢
    cases hk : ks[j]? with
    | none => rw [hk] at hq; cases hq
    | some z =>
      rw [hk] at hq
      refine ⟨_, rfl, ?_⟩
      have := Option.some.inj hq
      rw [← this]
  refine ⟨fun i j p q hi hj e => ?_, fun k q hk => ?_⟩
  · obtain ⟨p0, h1, h2⟩ := key i p hi
    obtain ⟨q0, h3, h4⟩ := key j q hj
    exact h.1 i j p0 q0 h1 h3 (by rw [h2, h4, e])
  · obtain ⟨q0, h1, h2⟩ := key k q hk
    rw [← h2]
    exact h.2 k q0 h1
end WLS
end
section
/-! the small machine is sound: each instruction, by the kit's row -/
theorem vk1 {ks : List Key} {v : PV} {t : List PV} (h : vok ks v) (ht : ∀ u ∈ t, vok ks u) : ∀ u ∈ v :: t, vok ks u := fun u hu => (List.mem_cons.mp hu).elim (fun e => e ▸ h) (ht u)
theorem vkt {ks : List Key} {v : PV} {t : List PV} (h : ∀ u ∈ v :: t, vok ks u) : ∀ u ∈ t, vok ks u := fun u hu => h u (List.mem_cons_of_mem _ hu)
theorem vkh {ks : List Key} {v : PV} {t : List PV} (h : ∀ u ∈ v :: t, vok ks u) : vok ks v := h _ List.mem_cons_self
def GG (y : Nat) (p : Program) (l : Launch) (e : Env) (R : Room) (s : State) (m : MethodId) (args : Array Value) (below : List Frame) (meth : Method) (c : Code) (cells slots : Nat) (Qf : State → Prop) (D : va_G) (cI cZ cQ : ClassId) (sa : Nat → Nat) (ad : Key → Nat) (ks : List Key) (A : Nat → Prop) (pc : Nat) (ls : Ls) (st : List PV) (w : Wd) : Prop :=
  ∀ (H : Heap) (locs : List Loc) (ls' : Array Slot), Wx s D cI cZ cQ sa ad ks A w H locs → Lok sa ad (yL y) ls' ls → (∀ v, some v ∈ ls → vok ks v) → (∀ v ∈ st, vok ks v) → W p l e R s m args below meth c H locs cells slots Qf (F0 m pc ls' (st.map (conc sa ad)))
/-- the locals as the kit has them -/
def lvl (sa : Nat → Nat) (ad : Key → Nat) (ls : Ls) : List (Nat × Value) := (List.range ls.length).filterMap (fun i => match ls[i]? with
  | some (some v) => some (i, conc sa ad v)
  | _ => none)
theorem lvl_mem {sa : Nat → Nat} {ad : Key → Nat} {ls : Ls} {i : Nat} {v : PV} (h : ls[i]? = some (some v)) : (i, conc sa ad v) ∈ lvl sa ad ls := by
  refine List.mem_filterMap.mpr ⟨i, List.mem_range.mpr (List.getElem?_eq_some_iff.mp h).1, ?_⟩
  simp only [h]
theorem lvl_of {sa : Nat → Nat} {ad : Key → Nat} {ls : Ls} {q : Nat × Value} (h : q ∈ lvl sa ad ls) : ∃ v : PV, ls[q.1]? = some (some v) ∧ q.2 = conc sa ad v := by
  obtain ⟨i, -, hi⟩ := List.mem_filterMap.mp h
  cases hl : ls[i]? with
  | none => simp only [hl] at hi; cases hi
  | some o =>
    cases o with
    | none => simp only [hl] at hi; cases hi
    | some v =>
      simp only [hl] at hi
      cases hi
      exact ⟨v, hl, rfl⟩
theorem Lok.lv {sa : Nat → Nat} {ad : Key → Nat} {n : Nat} {ls' : Array Slot} {ls : Ls} (h : Lok sa ad n ls' ls) : lv_has ls' n (lvl sa ad ls) := by
  refine ⟨h.1, h.2.1, fun q hq => ?_⟩
  obtain ⟨v, h1, h2⟩ := lvl_of hq
  rw [h2]
  exact h.2.2 q.1 v h1
theorem conc_cat {sa : Nat → Nat} {ad : Key → Nat} {v : PV} (h : ¬ ∃ x, v = .inr (.inl x)) : (conc sa ad v).category = 1 := by
  match v with
  | .inl x => rfl
  | .inr (.inl x) => exact absurd ⟨x, rfl⟩ h
  | .inr (.inr (.inl q)) => rfl
  | .inr (.inr (.inr i)) => rfl
theorem lck_of {ls : Ls} {i j : Nat} {x : Int64} (h : lck ls i = true) (hj : j + 1 = i) : ls[j]? ≠ some (some (.inr (.inl x))) := by
  subst hj
  intro z
  simp only [lck, z] at h
  cases h
theorem Lok.set {sa : Nat → Nat} {ad : Key → Nat} {n i : Nat} {ls' : Array Slot} {ls : Ls} {u : PV} (hk : lck ls i = true) (h : lv_has ls' n ((i, conc sa ad u) :: (lvl sa ad ls).filter (fun q => !(q.1 == i) && !(q.1 + 1 == i && q.2.category == 2)))) : Lok sa ad n ls' (ls.set i (some u)) := by
  refine ⟨h.1, h.2.1, fun j v hj => ?_⟩
  by_cases hji : j = i
  · subst hji
    have hl : j < ls.length := by
      have := (List.getElem?_eq_some_iff.mp hj).1
      simpa using this
    rw [List.getElem?_set_self hl] at hj
    cases hj
    exact h.2.2 _ List.mem_cons_self
  · rw [List.getElem?_set_ne (Ne.symm hji)] at hj
    refine h.2.2 (j, conc sa ad v) (List.mem_cons_of_mem _ (List.mem_filter.mpr ⟨lvl_mem hj, ?_⟩))
    have hc : ¬ (j + 1 = i ∧ (conc sa ad v).category = 2) := by
      intro z
      by_cases hv : ∃ x, v = .inr (.inl x)
      · obtain ⟨x, rfl⟩ := hv
        exact lck_of hk z.1 hj
      · rw [conc_cat hv] at z
        exact absurd z.2 (by decide)
    simp only [Bool.and_eq_true, Bool.not_eq_true', beq_eq_false_iff_ne, Bool.and_eq_false_iff]
    refine ⟨hji, ?_⟩
    by_cases h1 : j + 1 = i
    · exact Or.inr (fun z => hc ⟨h1, z⟩)
    · exact Or.inl h1
theorem vls_set {ks : List Key} {ls : Ls} {i : Nat} {u : PV} (h : ∀ v, some v ∈ ls → vok ks v) (hu : vok ks u) : ∀ v, some v ∈ ls.set i (some u) → vok ks v := by
  intro v hv
  rcases List.mem_or_eq_of_mem_set hv with h1 | h1
  · exact h v h1
  · cases h1
    exact hu
section SND
variable {d y : Nat} {scr : Option (Nat × (Nat → Int32))} {Q : Wd → Option PV → Prop} {p : Program} {l : Launch} {e : Env} {R : Room} {s : State} {m : MethodId} {args : Array Value} {below : List Frame} {meth : Method} {c : Code} {cells slots : Nat} {Qf : State → Prop} {D : va_G} {cI cZ cQ : ClassId} {sa sv : Nat → Nat} {ad : Key → Nat} {ks : List Key} {A : Nat → Prop}
variable {pc : Nat} {ls : Ls} {st t : List PV} {w : Wd} {v : Int32} {a b nx : Nat}

theorem so_9 {x z : Int32} (hF : Fr y d p R s m args c cells slots) (hI : ins y pc = (9, v, a, b, nx)) (k : GG y p l e R s m args below meth c cells slots Qf D cI cZ cQ sa ad ks A nx ls (vI (x + z) :: t) w) : GG y p l e R s m args below meth c cells slots Qf D cI cZ cQ sa ad ks A pc ls (vI z :: vI x :: t) w := by
  obtain ⟨i, n, hd, hn, hr⟩ := get_rel hI (by decide)
  obtain ⟨rfl, rfl⟩ := isI_of hr
  subst hn
  intro H locs ls' hW hL hv hs
  exact lv_iadd hF.1 hF.2.1 hd (k H locs ls' hW hL hv (vk1 trivial (vkt (vkt hs))))
theorem so_17 {x z : Int32} (hF : Fr y d p R s m args c cells slots) (hI : ins y pc = (17, v, a, b, nx)) (k : GG y p l e R s m args below meth c cells slots Qf D cI cZ cQ sa ad ks A nx ls (vI (x - z) :: t) w) : GG y p l e R s m args below meth c cells slots Qf D cI cZ cQ sa ad ks A pc ls (vI z :: vI x :: t) w := by
  obtain ⟨i, n, hd, hn, hr⟩ := get_rel hI (by decide)
  obtain ⟨rfl, rfl⟩ := isI_of hr
  subst hn
  intro H locs ls' hW hL hv hs
  exact lv_isub hF.1 hF.2.1 hd (k H locs ls' hW hL hv (vk1 trivial (vkt (vkt hs))))
theorem so_18 {x z : Int32} (hF : Fr y d p R s m args c cells slots) (hI : ins y pc = (18, v, a, b, nx)) (k : GG y p l e R s m args below meth c cells slots Qf D cI cZ cQ sa ad ks A nx ls (vI (x * z) :: t) w) : GG y p l e R s m args below meth c cells slots Qf D cI cZ cQ sa ad ks A pc ls (vI z :: vI x :: t) w := by
  obtain ⟨i, n, hd, hn, hr⟩ := get_rel hI (by decide)
  obtain ⟨rfl, rfl⟩ := isI_of hr
  subst hn
  intro H locs ls' hW hL hv hs
  exact lv_imul hF.1 hF.2.1 hd (k H locs ls' hW hL hv (vk1 trivial (vkt (vkt hs))))
theorem so_23 {x z : Int32} (hF : Fr y d p R s m args c cells slots) (hI : ins y pc = (23, v, a, b, nx)) (k : GG y p l e R s m args below meth c cells slots Qf D cI cZ cQ sa ad ks A nx ls (vI (x <<< (z &&& 31)) :: t) w) : GG y p l e R s m args below meth c cells slots Qf D cI cZ cQ sa ad ks A pc ls (vI z :: vI x :: t) w := by
  obtain ⟨i, n, hd, hn, hr⟩ := get_rel hI (by decide)
  obtain ⟨rfl, rfl⟩ := isI_of hr
  subst hn
  intro H locs ls' hW hL hv hs
  exact lv_ishl hF.1 hF.2.1 hd (k H locs ls' hW hL hv (vk1 trivial (vkt (vkt hs))))
theorem so_25 {x z : Int32} (hF : Fr y d p R s m args c cells slots) (hI : ins y pc = (25, v, a, b, nx)) (k : GG y p l e R s m args below meth c cells slots Qf D cI cZ cQ sa ad ks A nx ls (vI (x &&& z) :: t) w) : GG y p l e R s m args below meth c cells slots Qf D cI cZ cQ sa ad ks A pc ls (vI z :: vI x :: t) w := by
  obtain ⟨i, n, hd, hn, hr⟩ := get_rel hI (by decide)
  obtain ⟨rfl, rfl⟩ := isI_of hr
  subst hn
  intro H locs ls' hW hL hv hs
  exact lv_iand hF.1 hF.2.1 hd (k H locs ls' hW hL hv (vk1 trivial (vkt (vkt hs))))
theorem so_30 {x z : Int32} (hF : Fr y d p R s m args c cells slots) (hI : ins y pc = (30, v, a, b, nx)) (k : GG y p l e R s m args below meth c cells slots Qf D cI cZ cQ sa ad ks A nx ls (vI (x >>> (z &&& 31)) :: t) w) : GG y p l e R s m args below meth c cells slots Qf D cI cZ cQ sa ad ks A pc ls (vI z :: vI x :: t) w := by
  obtain ⟨i, n, hd, hn, hr⟩ := get_rel hI (by decide)
  obtain ⟨rfl, rfl⟩ := isI_of hr
  subst hn
  intro H locs ls' hW hL hv hs
  exact lv_ishr hF.1 hF.2.1 hd (k H locs ls' hW hL hv (vk1 trivial (vkt (vkt hs))))
theorem so_33 {x z : Int32} (hF : Fr y d p R s m args c cells slots) (hI : ins y pc = (33, v, a, b, nx)) (k : GG y p l e R s m args below meth c cells slots Qf D cI cZ cQ sa ad ks A nx ls (vI (x ||| z) :: t) w) : GG y p l e R s m args below meth c cells slots Qf D cI cZ cQ sa ad ks A pc ls (vI z :: vI x :: t) w := by
  obtain ⟨i, n, hd, hn, hr⟩ := get_rel hI (by decide)
  obtain ⟨rfl, rfl⟩ := isI_of hr
  subst hn
  intro H locs ls' hW hL hv hs
  exact lv_ior hF.1 hF.2.1 hd (k H locs ls' hW hL hv (vk1 trivial (vkt (vkt hs))))
theorem so_38 {x z : Int32} (hF : Fr y d p R s m args c cells slots) (hI : ins y pc = (38, v, a, b, nx)) (k : GG y p l e R s m args below meth c cells slots Qf D cI cZ cQ sa ad ks A nx ls (vI (x ^^^ z) :: t) w) : GG y p l e R s m args below meth c cells slots Qf D cI cZ cQ sa ad ks A pc ls (vI z :: vI x :: t) w := by
  obtain ⟨i, n, hd, hn, hr⟩ := get_rel hI (by decide)
  obtain ⟨rfl, rfl⟩ := isI_of hr
  subst hn
  intro H locs ls' hW hL hv hs
  exact lv_ixor hF.1 hF.2.1 hd (k H locs ls' hW hL hv (vk1 trivial (vkt (vkt hs))))
theorem so_46 {x z : Int32} (hF : Fr y d p R s m args c cells slots) (hI : ins y pc = (46, v, a, b, nx)) (k : GG y p l e R s m args below meth c cells slots Qf D cI cZ cQ sa ad ks A nx ls (vI (x.toUInt32 >>> (z.toUInt32 &&& Int32.toUInt32 31)).toInt32 :: t) w) : GG y p l e R s m args below meth c cells slots Qf D cI cZ cQ sa ad ks A pc ls (vI z :: vI x :: t) w := by
  obtain ⟨i, n, hd, hn, hr⟩ := get_rel hI (by decide)
  obtain ⟨rfl, rfl⟩ := isI_of hr
  subst hn
  intro H locs ls' hW hL hv hs
  exact lv_iushr hF.1 hF.2.1 hd rfl (k H locs ls' hW hL hv (vk1 trivial (vkt (vkt hs))))
theorem so_49 {x z : Int32} (hF : Fr y d p R s m args c cells slots) (hI : ins y pc = (49, v, a, b, nx)) (hz : ¬ z = 0) (k : GG y p l e R s m args below meth c cells slots Qf D cI cZ cQ sa ad ks A nx ls (vI (x / z) :: t) w) : GG y p l e R s m args below meth c cells slots Qf D cI cZ cQ sa ad ks A pc ls (vI z :: vI x :: t) w := by
  obtain ⟨i, n, hd, hn, hr⟩ := get_rel hI (by decide)
  obtain ⟨rfl, rfl⟩ := isI_of hr
  subst hn
  intro H locs ls' hW hL hv hs
  exact lv_idiv hF.1 hF.2.1 hd hz (k H locs ls' hW hL hv (vk1 trivial (vkt (vkt hs))))
theorem so_50 {x z : Int32} (hF : Fr y d p R s m args c cells slots) (hI : ins y pc = (50, v, a, b, nx)) (hz : ¬ z = 0) (k : GG y p l e R s m args below meth c cells slots Qf D cI cZ cQ sa ad ks A nx ls (vI (x - x / z * z) :: t) w) : GG y p l e R s m args below meth c cells slots Qf D cI cZ cQ sa ad ks A pc ls (vI z :: vI x :: t) w := by
  obtain ⟨i, n, hd, hn, hr⟩ := get_rel hI (by decide)
  obtain ⟨rfl, rfl⟩ := isI_of hr
  subst hn
  intro H locs ls' hW hL hv hs
  exact lv_irem hF.1 hF.2.1 hd hz (k H locs ls' hW hL hv (vk1 trivial (vkt (vkt hs))))
theorem so_40 {x z : Int64} (hF : Fr y d p R s m args c cells slots) (hI : ins y pc = (40, v, a, b, nx)) (k : GG y p l e R s m args below meth c cells slots Qf D cI cZ cQ sa ad ks A nx ls (vL (x &&& z) :: t) w) : GG y p l e R s m args below meth c cells slots Qf D cI cZ cQ sa ad ks A pc ls (vL z :: vL x :: t) w := by
  obtain ⟨i, n, hd, hn, hr⟩ := get_rel hI (by decide)
  obtain ⟨rfl, rfl⟩ := isI_of hr
  subst hn
  intro H locs ls' hW hL hv hs
  exact lv_land hF.1 hF.2.1 hd (k H locs ls' hW hL hv (vk1 trivial (vkt (vkt hs))))
theorem so_43 {x z : Int64} (hF : Fr y d p R s m args c cells slots) (hI : ins y pc = (43, v, a, b, nx)) (k : GG y p l e R s m args below meth c cells slots Qf D cI cZ cQ sa ad ks A nx ls (vL (x ||| z) :: t) w) : GG y p l e R s m args below meth c cells slots Qf D cI cZ cQ sa ad ks A pc ls (vL z :: vL x :: t) w := by
  obtain ⟨i, n, hd, hn, hr⟩ := get_rel hI (by decide)
  obtain ⟨rfl, rfl⟩ := isI_of hr
  subst hn
  intro H locs ls' hW hL hv hs
  exact lv_lor hF.1 hF.2.1 hd (k H locs ls' hW hL hv (vk1 trivial (vkt (vkt hs))))
theorem so_41 {z : Int32} {x : Int64} (hF : Fr y d p R s m args c cells slots) (hI : ins y pc = (41, v, a, b, nx)) (k : GG y p l e R s m args below meth c cells slots Qf D cI cZ cQ sa ad ks A nx ls (vL (x >>> (z.toInt64 &&& 63)) :: t) w) : GG y p l e R s m args below meth c cells slots Qf D cI cZ cQ sa ad ks A pc ls (vI z :: vL x :: t) w := by
  obtain ⟨i, n, hd, hn, hr⟩ := get_rel hI (by decide)
  obtain ⟨rfl, rfl⟩ := isI_of hr
  subst hn
  intro H locs ls' hW hL hv hs
  exact lv_lshr hF.1 hF.2.1 hd rfl (k H locs ls' hW hL hv (vk1 trivial (vkt (vkt hs))))
theorem so_42 {z : Int32} {x : Int64} (hF : Fr y d p R s m args c cells slots) (hI : ins y pc = (42, v, a, b, nx)) (k : GG y p l e R s m args below meth c cells slots Qf D cI cZ cQ sa ad ks A nx ls (vL (x <<< (z.toInt64 &&& 63)) :: t) w) : GG y p l e R s m args below meth c cells slots Qf D cI cZ cQ sa ad ks A pc ls (vI z :: vL x :: t) w := by
  obtain ⟨i, n, hd, hn, hr⟩ := get_rel hI (by decide)
  obtain ⟨rfl, rfl⟩ := isI_of hr
  subst hn
  intro H locs ls' hW hL hv hs
  exact lv_lshl hF.1 hF.2.1 hd rfl (k H locs ls' hW hL hv (vk1 trivial (vkt (vkt hs))))
theorem so_44 {x z : Int64} (hF : Fr y d p R s m args c cells slots) (hI : ins y pc = (44, v, a, b, nx)) (k : GG y p l e R s m args below meth c cells slots Qf D cI cZ cQ sa ad ks A nx ls (vI (lg_cmp x z) :: t) w) : GG y p l e R s m args below meth c cells slots Qf D cI cZ cQ sa ad ks A pc ls (vL z :: vL x :: t) w := by
  obtain ⟨i, n, hd, hn, hr⟩ := get_rel hI (by decide)
  obtain ⟨rfl, rfl⟩ := isI_of hr
  subst hn
  intro H locs ls' hW hL hv hs
  exact W.lcmp hF.1 hF.2.1 hd (k H locs ls' hW hL hv (vk1 trivial (vkt (vkt hs))))
theorem so_45 {x : Int64} (hF : Fr y d p R s m args c cells slots) (hI : ins y pc = (45, v, a, b, nx)) (k : GG y p l e R s m args below meth c cells slots Qf D cI cZ cQ sa ad ks A nx ls (vI x.toInt32 :: t) w) : GG y p l e R s m args below meth c cells slots Qf D cI cZ cQ sa ad ks A pc ls (vL x :: t) w := by
  obtain ⟨i, n, hd, hn, hr⟩ := get_rel hI (by decide)
  obtain ⟨rfl, rfl⟩ := isI_of hr
  subst hn
  intro H locs ls' hW hL hv hs
  exact lv_l2i hF.1 hF.2.1 hd rfl (k H locs ls' hW hL hv (vk1 trivial (vkt hs)))
theorem so_21 {x : Int32} (hF : Fr y d p R s m args c cells slots) (hI : ins y pc = (21, v, a, b, nx)) (k : GG y p l e R s m args below meth c cells slots Qf D cI cZ cQ sa ad ks A nx ls (vL x.toInt64 :: t) w) : GG y p l e R s m args below meth c cells slots Qf D cI cZ cQ sa ad ks A pc ls (vI x :: t) w := by
  obtain ⟨i, n, hd, hn, hr⟩ := get_rel hI (by decide)
  obtain ⟨rfl, rfl⟩ := isI_of hr
  subst hn
  intro H locs ls' hW hL hv hs
  exact lv_i2l hF.1 hF.2.1 hd rfl (k H locs ls' hW hL hv (vk1 trivial (vkt hs)))
theorem so_20 {u : PV} (hF : Fr y d p R s m args c cells slots) (hI : ins y pc = (20, v, a, b, nx)) (hu : ¬ ∃ x, u = .inr (.inl x)) (k : GG y p l e R s m args below meth c cells slots Qf D cI cZ cQ sa ad ks A nx ls (u :: u :: t) w) : GG y p l e R s m args below meth c cells slots Qf D cI cZ cQ sa ad ks A pc ls (u :: t) w := by
  obtain ⟨i, n, hd, hn, hr⟩ := get_rel hI (by decide)
  obtain ⟨rfl, rfl⟩ := isI_of hr
  subst hn
  intro H locs ls' hW hL hv hs
  exact lv_dup hF.1 hF.2.1 hd (conc_cat hu) (k H locs ls' hW hL hv (vk1 (vkh hs) hs))
theorem so_39 {u z : PV} (hF : Fr y d p R s m args c cells slots) (hI : ins y pc = (39, v, a, b, nx)) (hu : ¬ ∃ x, u = .inr (.inl x)) (hz : ¬ ∃ x, z = .inr (.inl x)) (k : GG y p l e R s m args below meth c cells slots Qf D cI cZ cQ sa ad ks A nx ls (u :: z :: u :: z :: t) w) : GG y p l e R s m args below meth c cells slots Qf D cI cZ cQ sa ad ks A pc ls (u :: z :: t) w := by
  obtain ⟨i, n, hd, hn, hr⟩ := get_rel hI (by decide)
  obtain ⟨rfl, rfl⟩ := isI_of hr
  subst hn
  intro H locs ls' hW hL hv hs
  exact lv_dup2_11 hF.1 hF.2.1 hd (conc_cat hu) (conc_cat hz) (k H locs ls' hW hL hv (vk1 (vkh hs) (vk1 (vkh (vkt hs)) hs)))
theorem so_2 (hF : Fr y d p R s m args c cells slots) (hI : ins y pc = (2, v, a, b, nx)) (k : GG y p l e R s m args below meth c cells slots Qf D cI cZ cQ sa ad ks A nx ls (vI v :: st) w) : GG y p l e R s m args below meth c cells slots Qf D cI cZ cQ sa ad ks A pc ls st w := by
  obtain ⟨i, n, hd, hn, hr⟩ := get_rel hI (by decide)
  subst hn
  intro H locs ls' hW hL hv hs
  have k := k H locs ls' hW hL hv (vk1 trivial hs)
  simp only [rel] at hr
  split at hr
  all_goals first
    | (simp only [Bool.and_eq_true, decide_eq_true_eq] at hr; obtain ⟨h1, h2⟩ := hr; obtain rfl := nbeq h2; first | exact lv_iconst hF.1 hF.2.1 hd h1 k | exact lv_bipush hF.1 hF.2.1 hd h1 k | exact lv_sipush hF.1 hF.2.1 hd h1 k)
    | cases hr
theorem so_24 (hF : Fr y d p R s m args c cells slots) (hI : ins y pc = (24, v, a, b, nx)) (k : GG y p l e R s m args below meth c cells slots Qf D cI cZ cQ sa ad ks A nx ls (vL (lcv v a) :: st) w) : GG y p l e R s m args below meth c cells slots Qf D cI cZ cQ sa ad ks A pc ls st w := by
  obtain ⟨i, n, hd, hn, hr⟩ := get_rel hI (by decide)
  subst hn
  intro H locs ls' hW hL hv hs
  have k := k H locs ls' hW hL hv (vk1 trivial hs)
  simp only [rel] at hr
  split at hr
  · simp only [Bool.and_eq_true, decide_eq_true_eq] at hr
    obtain ⟨h1, h2⟩ := hr
    obtain rfl := nbeq h2
    exact lv_lconst hF.1 hF.2.1 hd h1 k
  · simp only [Bool.and_eq_true] at hr
    obtain ⟨h1, h2⟩ := hr
    obtain rfl := nbeq h2
    exact lv_ldc2 hF.1 hF.2.1 hF.2.2.2.1 (hF.2.2.2.2.1 _ (cpL_of h1)) hd k
  · cases hr
theorem so_4 (hF : Fr y d p R s m args c cells slots) (hI : ins y pc = (4, v, a, b, nx)) (k : GG y p l e R s m args below meth c cells slots Qf D cI cZ cQ sa ad ks A a ls st w) : GG y p l e R s m args below meth c cells slots Qf D cI cZ cQ sa ad ks A pc ls st w := by
  obtain ⟨i, n, hd, hn, hr⟩ := get_rel hI (by decide)
  subst hn
  intro H locs ls' hW hL hv hs
  have k := k H locs ls' hW hL hv hs
  simp only [rel] at hr
  split at hr
  · simp only [Bool.and_eq_true, decide_eq_true_eq] at hr
    obtain ⟨h1, h2⟩ := hr
    obtain rfl := nbeq h2
    exact lv_goto hF.1 hF.2.1 hd h1 k
  · cases hr

theorem so_6 {x : Int32} (hF : Fr y d p R s m args c cells slots) (hI : ins y pc = (6, v, a, b, nx)) (k1 : x = 0 → GG y p l e R s m args below meth c cells slots Qf D cI cZ cQ sa ad ks A a ls t w) (k2 : ¬ (x = 0) → GG y p l e R s m args below meth c cells slots Qf D cI cZ cQ sa ad ks A nx ls t w) : GG y p l e R s m args below meth c cells slots Qf D cI cZ cQ sa ad ks A pc ls (vI x :: t) w := by
  obtain ⟨i, n, hd, hn, hr⟩ := get_rel hI (by decide)
  subst hn
  intro H locs ls' hW hL hv hs
  have k1 := fun z => k1 z H locs ls' hW hL hv (vkt hs)
  have k2 := fun z => k2 z H locs ls' hW hL hv (vkt hs)
  simp only [rel] at hr
  split at hr
  · simp only [Bool.and_eq_true, decide_eq_true_eq] at hr
    obtain ⟨h1, h2⟩ := hr
    obtain rfl := nbeq h2
    exact lv_if_eq hF.1 hF.2.1 hd h1 k1 k2
  · cases hr
theorem so_31 {x : Int32} (hF : Fr y d p R s m args c cells slots) (hI : ins y pc = (31, v, a, b, nx)) (k1 : x ≤ 0 → GG y p l e R s m args below meth c cells slots Qf D cI cZ cQ sa ad ks A a ls t w) (k2 : ¬ (x ≤ 0) → GG y p l e R s m args below meth c cells slots Qf D cI cZ cQ sa ad ks A nx ls t w) : GG y p l e R s m args below meth c cells slots Qf D cI cZ cQ sa ad ks A pc ls (vI x :: t) w := by
  obtain ⟨i, n, hd, hn, hr⟩ := get_rel hI (by decide)
  subst hn
  intro H locs ls' hW hL hv hs
  have k1 := fun z => k1 z H locs ls' hW hL hv (vkt hs)
  have k2 := fun z => k2 z H locs ls' hW hL hv (vkt hs)
  simp only [rel] at hr
  split at hr
  · simp only [Bool.and_eq_true, decide_eq_true_eq] at hr
    obtain ⟨h1, h2⟩ := hr
    obtain rfl := nbeq h2
    exact lv_if_le hF.1 hF.2.1 hd h1 k1 k2
  · cases hr
theorem so_32 {x : Int32} (hF : Fr y d p R s m args c cells slots) (hI : ins y pc = (32, v, a, b, nx)) (k1 : 0 ≤ x → GG y p l e R s m args below meth c cells slots Qf D cI cZ cQ sa ad ks A a ls t w) (k2 : ¬ (0 ≤ x) → GG y p l e R s m args below meth c cells slots Qf D cI cZ cQ sa ad ks A nx ls t w) : GG y p l e R s m args below meth c cells slots Qf D cI cZ cQ sa ad ks A pc ls (vI x :: t) w := by
  obtain ⟨i, n, hd, hn, hr⟩ := get_rel hI (by decide)
  subst hn
  intro H locs ls' hW hL hv hs
  have k1 := fun z => k1 z H locs ls' hW hL hv (vkt hs)
  have k2 := fun z => k2 z H locs ls' hW hL hv (vkt hs)
  simp only [rel] at hr
  split at hr
  · simp only [Bool.and_eq_true, decide_eq_true_eq] at hr
    obtain ⟨h1, h2⟩ := hr
    obtain rfl := nbeq h2
    exact lv_if_ge hF.1 hF.2.1 hd h1 k1 k2
  · cases hr
theorem so_36 {x : Int32} (hF : Fr y d p R s m args c cells slots) (hI : ins y pc = (36, v, a, b, nx)) (k1 : x < 0 → GG y p l e R s m args below meth c cells slots Qf D cI cZ cQ sa ad ks A a ls t w) (k2 : ¬ (x < 0) → GG y p l e R s m args below meth c cells slots Qf D cI cZ cQ sa ad ks A nx ls t w) : GG y p l e R s m args below meth c cells slots Qf D cI cZ cQ sa ad ks A pc ls (vI x :: t) w := by
  obtain ⟨i, n, hd, hn, hr⟩ := get_rel hI (by decide)
  subst hn
  intro H locs ls' hW hL hv hs
  have k1 := fun z => k1 z H locs ls' hW hL hv (vkt hs)
  have k2 := fun z => k2 z H locs ls' hW hL hv (vkt hs)
  simp only [rel] at hr
  split at hr
  · simp only [Bool.and_eq_true, decide_eq_true_eq] at hr
    obtain ⟨h1, h2⟩ := hr
    obtain rfl := nbeq h2
    exact lv_if_lt hF.1 hF.2.1 hd h1 k1 k2
  · cases hr
theorem so_47 {x : Int32} (hF : Fr y d p R s m args c cells slots) (hI : ins y pc = (47, v, a, b, nx)) (k1 : 0 < x → GG y p l e R s m args below meth c cells slots Qf D cI cZ cQ sa ad ks A a ls t w) (k2 : ¬ (0 < x) → GG y p l e R s m args below meth c cells slots Qf D cI cZ cQ sa ad ks A nx ls t w) : GG y p l e R s m args below meth c cells slots Qf D cI cZ cQ sa ad ks A pc ls (vI x :: t) w := by
  obtain ⟨i, n, hd, hn, hr⟩ := get_rel hI (by decide)
  subst hn
  intro H locs ls' hW hL hv hs
  have k1 := fun z => k1 z H locs ls' hW hL hv (vkt hs)
  have k2 := fun z => k2 z H locs ls' hW hL hv (vkt hs)
  simp only [rel] at hr
  split at hr
  · simp only [Bool.and_eq_true, decide_eq_true_eq] at hr
    obtain ⟨h1, h2⟩ := hr
    obtain rfl := nbeq h2
    exact lv_if_gt hF.1 hF.2.1 hd h1 k1 k2
  · cases hr
theorem so_12 {x z : Int32} (hF : Fr y d p R s m args c cells slots) (hI : ins y pc = (12, v, a, b, nx)) (k1 : z ≤ x → GG y p l e R s m args below meth c cells slots Qf D cI cZ cQ sa ad ks A a ls t w) (k2 : ¬ (z ≤ x) → GG y p l e R s m args below meth c cells slots Qf D cI cZ cQ sa ad ks A nx ls t w) : GG y p l e R s m args below meth c cells slots Qf D cI cZ cQ sa ad ks A pc ls (vI z :: vI x :: t) w := by
  obtain ⟨i, n, hd, hn, hr⟩ := get_rel hI (by decide)
  subst hn
  intro H locs ls' hW hL hv hs
  have k1 := fun q => k1 q H locs ls' hW hL hv (vkt (vkt hs))
  have k2 := fun q => k2 q H locs ls' hW hL hv (vkt (vkt hs))
  simp only [rel] at hr
  split at hr
  · simp only [Bool.and_eq_true, decide_eq_true_eq] at hr
    obtain ⟨h1, h2⟩ := hr
    obtain rfl := nbeq h2
    exact lv_icmp_ge hF.1 hF.2.1 hd h1 k1 k2
  · cases hr
theorem so_15 {x z : Int32} (hF : Fr y d p R s m args c cells slots) (hI : ins y pc = (15, v, a, b, nx)) (k1 : x = z → GG y p l e R s m args below meth c cells slots Qf D cI cZ cQ sa ad ks A a ls t w) (k2 : ¬ (x = z) → GG y p l e R s m args below meth c cells slots Qf D cI cZ cQ sa ad ks A nx ls t w) : GG y p l e R s m args below meth c cells slots Qf D cI cZ cQ sa ad ks A pc ls (vI z :: vI x :: t) w := by
  obtain ⟨i, n, hd, hn, hr⟩ := get_rel hI (by decide)
  subst hn
  intro H locs ls' hW hL hv hs
  have k1 := fun q => k1 q H locs ls' hW hL hv (vkt (vkt hs))
  have k2 := fun q => k2 q H locs ls' hW hL hv (vkt (vkt hs))
  simp only [rel] at hr
  split at hr
  · simp only [Bool.and_eq_true, decide_eq_true_eq] at hr
    obtain ⟨h1, h2⟩ := hr
    obtain rfl := nbeq h2
    exact lv_icmp_eq hF.1 hF.2.1 hd h1 k1 k2
  · cases hr
theorem so_22 {x z : Int32} (hF : Fr y d p R s m args c cells slots) (hI : ins y pc = (22, v, a, b, nx)) (k1 : x < z → GG y p l e R s m args below meth c cells slots Qf D cI cZ cQ sa ad ks A a ls t w) (k2 : ¬ (x < z) → GG y p l e R s m args below meth c cells slots Qf D cI cZ cQ sa ad ks A nx ls t w) : GG y p l e R s m args below meth c cells slots Qf D cI cZ cQ sa ad ks A pc ls (vI z :: vI x :: t) w := by
  obtain ⟨i, n, hd, hn, hr⟩ := get_rel hI (by decide)
  subst hn
  intro H locs ls' hW hL hv hs
  have k1 := fun q => k1 q H locs ls' hW hL hv (vkt (vkt hs))
  have k2 := fun q => k2 q H locs ls' hW hL hv (vkt (vkt hs))
  simp only [rel] at hr
  split at hr
  · simp only [Bool.and_eq_true, decide_eq_true_eq] at hr
    obtain ⟨h1, h2⟩ := hr
    obtain rfl := nbeq h2
    exact lv_icmp_lt hF.1 hF.2.1 hd h1 k1 k2
  · cases hr
theorem so_27 {x z : Int32} (hF : Fr y d p R s m args c cells slots) (hI : ins y pc = (27, v, a, b, nx)) (k1 : z < x → GG y p l e R s m args below meth c cells slots Qf D cI cZ cQ sa ad ks A a ls t w) (k2 : ¬ (z < x) → GG y p l e R s m args below meth c cells slots Qf D cI cZ cQ sa ad ks A nx ls t w) : GG y p l e R s m args below meth c cells slots Qf D cI cZ cQ sa ad ks A pc ls (vI z :: vI x :: t) w := by
  obtain ⟨i, n, hd, hn, hr⟩ := get_rel hI (by decide)
  subst hn
  intro H locs ls' hW hL hv hs
  have k1 := fun q => k1 q H locs ls' hW hL hv (vkt (vkt hs))
  have k2 := fun q => k2 q H locs ls' hW hL hv (vkt (vkt hs))
  simp only [rel] at hr
  split at hr
  · simp only [Bool.and_eq_true, decide_eq_true_eq] at hr
    obtain ⟨h1, h2⟩ := hr
    obtain rfl := nbeq h2
    exact lv_icmp_gt hF.1 hF.2.1 hd h1 k1 k2
  · cases hr
theorem so_29 {x z : Int32} (hF : Fr y d p R s m args c cells slots) (hI : ins y pc = (29, v, a, b, nx)) (k1 : x ≤ z → GG y p l e R s m args below meth c cells slots Qf D cI cZ cQ sa ad ks A a ls t w) (k2 : ¬ (x ≤ z) → GG y p l e R s m args below meth c cells slots Qf D cI cZ cQ sa ad ks A nx ls t w) : GG y p l e R s m args below meth c cells slots Qf D cI cZ cQ sa ad ks A pc ls (vI z :: vI x :: t) w := by
  obtain ⟨i, n, hd, hn, hr⟩ := get_rel hI (by decide)
  subst hn
  intro H locs ls' hW hL hv hs
  have k1 := fun q => k1 q H locs ls' hW hL hv (vkt (vkt hs))
  have k2 := fun q => k2 q H locs ls' hW hL hv (vkt (vkt hs))
  simp only [rel] at hr
  split at hr
  · simp only [Bool.and_eq_true, decide_eq_true_eq] at hr
    obtain ⟨h1, h2⟩ := hr
    obtain rfl := nbeq h2
    exact lv_icmp_le hF.1 hF.2.1 hd h1 k1 k2
  · cases hr
theorem so_11 {x : Int32} (hF : Fr y d p R s m args c cells slots) (hI : ins y pc = (11, v, a, b, nx)) (k1 : x = 0 → GG y p l e R s m args below meth c cells slots Qf D cI cZ cQ sa ad ks A nx ls t w) (k2 : ¬ x = 0 → GG y p l e R s m args below meth c cells slots Qf D cI cZ cQ sa ad ks A a ls t w) : GG y p l e R s m args below meth c cells slots Qf D cI cZ cQ sa ad ks A pc ls (vI x :: t) w := by
  obtain ⟨i, n, hd, hn, hr⟩ := get_rel hI (by decide)
  subst hn
  intro H locs ls' hW hL hv hs
  have k1 := fun z => k1 z H locs ls' hW hL hv (vkt hs)
  have k2 := fun z => k2 z H locs ls' hW hL hv (vkt hs)
  simp only [rel] at hr
  split at hr
  · simp only [Bool.and_eq_true, decide_eq_true_eq] at hr
    obtain ⟨h1, h2⟩ := hr
    obtain rfl := nbeq h2
    exact lv_if_ne hF.1 hF.2.1 hd h1 k2 k1
  · cases hr
theorem so_14 {x z : Int32} (hF : Fr y d p R s m args c cells slots) (hI : ins y pc = (14, v, a, b, nx)) (k1 : x = z → GG y p l e R s m args below meth c cells slots Qf D cI cZ cQ sa ad ks A nx ls t w) (k2 : ¬ x = z → GG y p l e R s m args below meth c cells slots Qf D cI cZ cQ sa ad ks A a ls t w) : GG y p l e R s m args below meth c cells slots Qf D cI cZ cQ sa ad ks A pc ls (vI z :: vI x :: t) w := by
  obtain ⟨i, n, hd, hn, hr⟩ := get_rel hI (by decide)
  subst hn
  intro H locs ls' hW hL hv hs
  have k1 := fun q => k1 q H locs ls' hW hL hv (vkt (vkt hs))
  have k2 := fun q => k2 q H locs ls' hW hL hv (vkt (vkt hs))
  simp only [rel] at hr
  split at hr
  · simp only [Bool.and_eq_true, decide_eq_true_eq] at hr
    obtain ⟨h1, h2⟩ := hr
    obtain rfl := nbeq h2
    exact lv_icmp_ne hF.1 hF.2.1 hd h1 k2 k1
  · cases hr
theorem so_0 {u : PV} (hF : Fr y d p R s m args c cells slots) (hI : ins y pc = (0, v, a, b, nx)) (hl : ls[a]? = some (some u)) (hu : tyck b u = true) (k : GG y p l e R s m args below meth c cells slots Qf D cI cZ cQ sa ad ks A nx ls (u :: st) w) : GG y p l e R s m args below meth c cells slots Qf D cI cZ cQ sa ad ks A pc ls st w := by
  obtain ⟨i, n, hd, hn, hr⟩ := get_rel hI (by decide)
  subst hn
  intro H locs ls' hW hL hv hs
  have k := k H locs ls' hW hL hv (vk1 (hv u (List.mem_of_getElem? hl)) hs)
  have h := hL.2.2 a u hl
  simp only [rel] at hr
  split at hr
  all_goals first
    | cases hr; done
    | skip
  all_goals
    simp only [Bool.and_eq_true] at hr
    obtain ⟨h1, h2, h3⟩ := hr
    obtain rfl := nbeq h1
    obtain rfl := nbeq h2
    obtain rfl := nbeq h3
  · match u, hu with
    | .inl x, _ => exact lv_iload_n hF.1 hF.2.1 hd rfl h k
    | .inr (.inl x), hu => cases hu
    | .inr (.inr x), hu => cases hu
  · match u, hu with
    | .inr (.inr (.inl q)), _ => exact lv_aload_n hF.1 hF.2.1 hd rfl h k
    | .inr (.inr (.inr q)), _ => exact lv_aload_n hF.1 hF.2.1 hd rfl h k
    | .inr (.inl x), hu => cases hu
    | .inl x, hu => cases hu
  · match u, hu with
    | .inr (.inl x), _ => exact lv_lload_n hF.1 hF.2.1 hd rfl h k
    | .inr (.inr x), hu => cases hu
    | .inl x, hu => cases hu
  · match u, hu with
    | .inl x, _ => exact lv_iload hF.1 hF.2.1 hd h k
    | .inr (.inl x), hu => cases hu
    | .inr (.inr x), hu => cases hu
  · match u, hu with
    | .inr (.inr (.inl q)), _ => exact lv_aload hF.1 hF.2.1 hd h k
    | .inr (.inr (.inr q)), _ => exact lv_aload hF.1 hF.2.1 hd h k
    | .inr (.inl x), hu => cases hu
    | .inl x, hu => cases hu
  · match u, hu with
    | .inr (.inl x), _ => exact lv_lload hF.1 hF.2.1 hd h k
    | .inr (.inr x), hu => cases hu
    | .inl x, hu => cases hu
theorem so_10 {u : PV} (hF : Fr y d p R s m args c cells slots) (hI : ins y pc = (10, v, a, b, nx)) (hu : tyck b u = true) (hk : lck ls a = true) (k : GG y p l e R s m args below meth c cells slots Qf D cI cZ cQ sa ad ks A nx (ls.set a (some u)) t w) : GG y p l e R s m args below meth c cells slots Qf D cI cZ cQ sa ad ks A pc ls (u :: t) w := by
  obtain ⟨i, n, hd, hn, hr⟩ := get_rel hI (by decide)
  subst hn
  intro H locs ls' hW hL hv hs
  have k := fun ls'' h => k H locs ls'' hW h (vls_set hv (vkh hs)) (vkt hs)
  have h := hL.lv
  simp only [rel] at hr
  split at hr
  all_goals first
    | cases hr; done
    | skip
  all_goals
    simp only [Bool.and_eq_true] at hr
    obtain ⟨h1, h2, h3, h4⟩ := hr
    obtain rfl := nbeq h1
    obtain rfl := nbeq h2
    obtain rfl := nbeq h3
    have h4 := nblt h4
  · match u, hu with
    | .inl x, _ => exact lv_istore_n hF.1 hF.2.1 hd rfl h h4 rfl (fun ls'' g => k ls'' (Lok.set hk g))
    | .inr (.inl x), hu => cases hu
    | .inr (.inr x), hu => cases hu
  · match u, hu with
    | .inr (.inr (.inl q)), _ => exact lv_astore_n hF.1 hF.2.1 hd rfl h h4 rfl (fun ls'' g => k ls'' (Lok.set hk g))
    | .inr (.inr (.inr q)), _ => exact lv_astore_n hF.1 hF.2.1 hd rfl h h4 rfl (fun ls'' g => k ls'' (Lok.set hk g))
    | .inr (.inl x), hu => cases hu
    | .inl x, hu => cases hu
  · match u, hu with
    | .inl x, _ => exact lv_istore hF.1 hF.2.1 hd h h4 rfl (fun ls'' g => k ls'' (Lok.set hk g))
    | .inr (.inl x), hu => cases hu
    | .inr (.inr x), hu => cases hu
  · match u, hu with
    | .inr (.inr (.inl q)), _ => exact lv_astore hF.1 hF.2.1 hd h h4 rfl (fun ls'' g => k ls'' (Lok.set hk g))
    | .inr (.inr (.inr q)), _ => exact lv_astore hF.1 hF.2.1 hd h h4 rfl (fun ls'' g => k ls'' (Lok.set hk g))
    | .inr (.inl x), hu => cases hu
    | .inl x, hu => cases hu
theorem so_13 {x : Int32} (hF : Fr y d p R s m args c cells slots) (hI : ins y pc = (13, v, a, b, nx)) (hl : ls[a]? = some (some (vI x))) (hk : lck ls a = true) (k : GG y p l e R s m args below meth c cells slots Qf D cI cZ cQ sa ad ks A nx (ls.set a (some (vI (x + v)))) st w) : GG y p l e R s m args below meth c cells slots Qf D cI cZ cQ sa ad ks A pc ls st w := by
  obtain ⟨i, n, hd, hn, hr⟩ := get_rel hI (by decide)
  subst hn
  intro H locs ls' hW hL hv hs
  have k := fun ls'' h => k H locs ls'' hW h (vls_set hv trivial) hs
  simp only [rel] at hr
  split at hr
  · simp only [Bool.and_eq_true, decide_eq_true_eq] at hr
    obtain ⟨h1, h2, h3, h4⟩ := hr
    obtain rfl := nbeq h1
    obtain rfl := nbeq h3
    obtain ⟨q, hq⟩ := List.getElem?_of_mem (lvl_mem (sa := sa) (ad := ad) hl)
    exact lv_iinc hF.1 hF.2.1 hd hL.lv hq (by rw [h2]) (nblt h4) rfl (fun ls'' g => k ls'' (Lok.set (u := vI (x + v)) hk g))
  · cases hr
end SND
end
section
section SND2
variable {d y : Nat} {scr : Option (Nat × (Nat → Int32))} {Q : Wd → Option PV → Prop} {p : Program} {l : Launch} {e : Env} {R : Room} {s : State} {m : MethodId} {args : Array Value} {below : List Frame} {meth : Method} {c : Code} {cells slots : Nat} {Qf : State → Prop} {D : va_G} {cI cZ cQ : ClassId} {sa sv : Nat → Nat} {ad : Key → Nat} {ks : List Key} {A : Nat → Prop}
variable {pc : Nat} {ls : Ls} {st t : List PV} {w : Wd} {v : Int32} {a b nx : Nat}
theorem so_1 {bb : Bool} {k i : Nat} (hF : Fr y d p R s m args c cells slots) (hC : Cx D cI cZ cQ sa sv A s) (hI : ins y pc = (1, v, a, b, nx)) (hk : kc bb k a = true) (kk : GG y p l e R s m args below meth c cells slots Qf D cI cZ cQ sa ad ks A nx ls (fval w bb k i a b :: t) w) : GG y p l e R s m args below meth c cells slots Qf D cI cZ cQ sa ad ks A pc ls (vR bb k i :: t) w := by
  obtain ⟨i', n, hd, hn, hr⟩ := get_rel hI (by decide)
  subst hn
  intro H locs ls' hW hL hv hs
  have hq : ((bb, k, i) : Key) ∈ ks := vkh hs
  have hki := kc_of hk
  obtain ⟨hwf, hP, hD, hS⟩ := id hW
  simp only [rel] at hr
  split at hr
  · simp only [Bool.and_eq_true] at hr
    obtain ⟨h1, h2⟩ := hr
    obtain rfl := nbeq h2
    obtain ⟨hw1, hf, hT, hci⟩ := cpF_of h1
    obtain ⟨hc1, hc2, hc3, hc4, hc5⟩ := cl_ok a hci
    have hf' : b < nfc a := by rw [hc2]; exact hf
    have kk := kk H locs ls' hW hL hv (vk1 (hwf.2.1 _ hq a hki b hf') (vkt hs))
    obtain ⟨q0, hq0, hat⟩ := wl_at (cI := cI) (cZ := cZ) (cQ := cQ) (sa := sa) (ad := ad) (w := w) hq
    rw [cellE_obj hki] at hat
    exact va_get (C := (clI a).1) (T := (clI a).2.1) (N := (clI a).2.2) hF.1 hF.2.1 hF.2.2.2.2.1 hc3 hF.2.2.2.1 hC.1 hP q0 hat hc1 b hf (hF.2.2.2.2.1 _ hw1) (by rw [hT]; exact fun _ h => h) (v := conc sa ad (fval w bb k i a b)) (by simp [hf']) hd kk
  · cases hr
theorem so_8i {bb : Bool} {k i t0 : Nat} {x : Int32} (hF : Fr y d p R s m args c cells slots) (hC : Cx D cI cZ cQ sa sv A s) (hI : ins y pc = (8, v, a, b, nx)) (hk : kc bb k a = true) (hs0 : fk a b = (0, t0)) (kk : GG y p l e R s m args below meth c cells slots Qf D cI cZ cQ sa ad ks A nx ls t (sF w bb k i b x)) : GG y p l e R s m args below meth c cells slots Qf D cI cZ cQ sa ad ks A pc ls (vI x :: vR bb k i :: t) w := by
  obtain ⟨i', n, hd, hn, hr⟩ := get_rel hI (by decide)
  subst hn
  intro H locs ls' hW hL hv hs
  have hq : ((bb, k, i) : Key) ∈ ks := vkh (vkt hs)
  have hki := kc_of hk
  obtain ⟨hwf, hP, hD, hS⟩ := id hW
  simp only [rel, hs0] at hr
  split at hr
  · simp only [Bool.and_eq_true, decide_eq_true_eq] at hr
    obtain ⟨h1, h2, h3, h4⟩ := hr
    obtain rfl := nbeq h2
    obtain ⟨hw1, hf, hT, hci⟩ := cpF_of h1
    obtain ⟨hc1, hc2, hc3, hc4, hc5⟩ := cl_ok a hci
    have hf' : b < nfc a := by rw [hc2]; exact hf
    have kk := fun H locs hW => kk H locs ls' hW hL hv (vkt (vkt hs))
    obtain ⟨q0, hq0, hat⟩ := wl_at (cI := cI) (cZ := cZ) (cQ := cQ) (sa := sa) (ad := ad) (w := w) hq
    rw [cellE_obj hki] at hat
    refine va_put (C := (clI a).1) (T := (clI a).2.1) (N := (clI a).2.2) (ty := .int) (v := .int x) hF.1 hF.2.1 hF.2.2.2.2.1 hc3 (tyI a) hc4 hc5 hF.2.2.2.1 hC.1 hP hD hS q0 hat hc1 b hf (hF.2.2.2.2.1 _ hw1) (by rw [hT]; exact fun _ h => h) h3 (by rw [hc4 b hf, h4]) rfl rfl (by simp [hf']) hd (fun H1 locs1 hP1 hD1 hS1 => ?_)
    rw [wl_sF hwf.1 hq0 hki hf' hs0] at hP1 hD1
    exact kk H1 locs1 ⟨wf_sF hwf, hP1, hD1, hS1⟩
  · cases hr
theorem so_8r {bb : Bool} {k i t0 j : Nat} (hF : Fr y d p R s m args c cells slots) (hC : Cx D cI cZ cQ sa sv A s) (hI : ins y pc = (8, v, a, b, nx)) (hk : kc bb k a = true) (hs0 : fk a b = (3, t0)) (kk : GG y p l e R s m args below meth c cells slots Qf D cI cZ cQ sa ad ks A nx ls t (sR w bb k i j)) : GG y p l e R s m args below meth c cells slots Qf D cI cZ cQ sa ad ks A pc ls (vR bb t0 j :: vR bb k i :: t) w := by
  obtain ⟨i', n, hd, hn, hr⟩ := get_rel hI (by decide)
  subst hn
  intro H locs ls' hW hL hv hs
  have hq : ((bb, k, i) : Key) ∈ ks := vkh (vkt hs)
  have hki := kc_of hk
  obtain ⟨hwf, hP, hD, hS⟩ := id hW
  simp only [rel, hs0] at hr
  split at hr
  · simp only [Bool.and_eq_true, decide_eq_true_eq] at hr
    obtain ⟨h1, h2, h3, h4⟩ := hr
    obtain rfl := nbeq h2
    obtain ⟨hw1, hf, hT, hci⟩ := cpF_of h1
    obtain ⟨hc1, hc2, hc3, hc4, hc5⟩ := cl_ok a hci
    have hf' : b < nfc a := by rw [hc2]; exact hf
    have kk := fun H locs hW => kk H locs ls' hW hL hv (vkt (vkt hs))
    obtain ⟨q0, hq0, hat⟩ := wl_at (cI := cI) (cZ := cZ) (cQ := cQ) (sa := sa) (ad := ad) (w := w) hq
    rw [cellE_obj hki] at hat
    refine va_put (C := (clI a).1) (T := (clI a).2.1) (N := (clI a).2.2) (ty := .object RX5) (v := .ref (ad (bb, t0, j))) hF.1 hF.2.1 hF.2.2.2.2.1 hc3 (tyI a) hc4 hc5 hF.2.2.2.1 hC.1 hP hD hS q0 hat hc1 b hf (hF.2.2.2.2.1 _ hw1) (by rw [hT]; exact fun _ h => h) h3 (by rw [hc4 b hf, h4]) rfl rfl (by simp [hf']) hd (fun H1 locs1 hP1 hD1 hS1 => ?_)
    rw [wl_sR hwf.1 hq0 hki hci hf' hs0] at hP1 hD1
    exact kk H1 locs1 ⟨wf_sR hwf hki hci hf' hs0 (vkh hs), hP1, hD1, hS1⟩
  · cases hr
theorem so_7 {bb : Bool} {k i n : Nat} {x : Int32} (hF : Fr y d p R s m args c cells slots) (hC : Cx D cI cZ cQ sa sv A s) (hI : ins y pc = (7, v, a, b, nx)) (hk : ki bb k = (1, n)) (hb : vp_in x n) (kk : GG y p l e R s m args below meth c cells slots Qf D cI cZ cQ sa ad ks A nx ls (vI (wA w bb k i x.toNatClampNeg) :: t) w) : GG y p l e R s m args below meth c cells slots Qf D cI cZ cQ sa ad ks A pc ls (vI x :: vR bb k i :: t) w := by
  obtain ⟨i', n', hd, hn, hr⟩ := get_rel hI (by decide)
  obtain ⟨rfl, rfl⟩ := isI_of hr
  subst hn
  intro H locs ls' hW hL hv hs
  have hq : ((bb, k, i) : Key) ∈ ks := vkh (vkt hs)
  obtain ⟨hwf, hP, hD, hS⟩ := id hW
  obtain ⟨q0, hq0, hat⟩ := wl_at (cI := cI) (cZ := cZ) (cQ := cQ) (sa := sa) (ad := ad) (w := w) hq
  rw [cellE_int hk] at hat
  exact va_iald hF.1 hF.2.1 hC.1 hP q0 0 hat rfl hb hd (kk H locs ls' hW hL hv (vk1 trivial (vkt (vkt hs))))
theorem so_35 {bb : Bool} {k i n : Nat} {x : Int32} (hF : Fr y d p R s m args c cells slots) (hC : Cx D cI cZ cQ sa sv A s) (hI : ins y pc = (35, v, a, b, nx)) (hk : ki bb k = (2, n)) (hb : vp_in x n) (kk : GG y p l e R s m args below meth c cells slots Qf D cI cZ cQ sa ad ks A nx ls (vI (wA w bb k i x.toNatClampNeg) :: t) w) : GG y p l e R s m args below meth c cells slots Qf D cI cZ cQ sa ad ks A pc ls (vI x :: vR bb k i :: t) w := by
  obtain ⟨i', n', hd, hn, hr⟩ := get_rel hI (by decide)
  obtain ⟨rfl, rfl⟩ := isI_of hr
  subst hn
  intro H locs ls' hW hL hv hs
  have hq : ((bb, k, i) : Key) ∈ ks := vkh (vkt hs)
  obtain ⟨hwf, hP, hD, hS⟩ := id hW
  obtain ⟨q0, hq0, hat⟩ := wl_at (cI := cI) (cZ := cZ) (cQ := cQ) (sa := sa) (ad := ad) (w := w) hq
  rw [cellE_bool hk] at hat
  exact va_zald hF.1 hF.2.1 hC.1 hP q0 1 hat rfl hb hd (kk H locs ls' hW hL hv (vk1 trivial (vkt (vkt hs))))
theorem so_16 {bb : Bool} {k i n : Nat} {x u : Int32} (hF : Fr y d p R s m args c cells slots) (hC : Cx D cI cZ cQ sa sv A s) (hI : ins y pc = (16, v, a, b, nx)) (hk : ki bb k = (1, n)) (hb : vp_in x n) (kk : GG y p l e R s m args below meth c cells slots Qf D cI cZ cQ sa ad ks A nx ls t (sA w bb k i x.toNatClampNeg u)) : GG y p l e R s m args below meth c cells slots Qf D cI cZ cQ sa ad ks A pc ls (vI u :: vI x :: vR bb k i :: t) w := by
  obtain ⟨i', n', hd, hn, hr⟩ := get_rel hI (by decide)
  obtain ⟨rfl, rfl⟩ := isI_of hr
  subst hn
  intro H locs ls' hW hL hv hs
  have hq : ((bb, k, i) : Key) ∈ ks := vkh (vkt (vkt hs))
  obtain ⟨hwf, hP, hD, hS⟩ := id hW
  obtain ⟨q0, hq0, hat⟩ := wl_at (cI := cI) (cZ := cZ) (cQ := cQ) (sa := sa) (ad := ad) (w := w) hq
  rw [cellE_int hk] at hat
  refine va_iast hF.1 hF.2.1 hC.1 hP hD hS q0 0 hat rfl hb hd (fun H1 locs1 hP1 hD1 hS1 => ?_)
  rw [wl_sAi hwf.1 hq0 hk] at hP1 hD1
  exact kk H1 locs1 ls' ⟨wf_sA hwf, hP1, hD1, hS1⟩ hL hv (vkt (vkt (vkt hs)))
theorem so_34 {bb : Bool} {k i n : Nat} {x u : Int32} (hF : Fr y d p R s m args c cells slots) (hC : Cx D cI cZ cQ sa sv A s) (hI : ins y pc = (34, v, a, b, nx)) (hk : ki bb k = (2, n)) (hb : vp_in x n) (kk : GG y p l e R s m args below meth c cells slots Qf D cI cZ cQ sa ad ks A nx ls t (sA w bb k i x.toNatClampNeg (vp_nar .boolean u))) : GG y p l e R s m args below meth c cells slots Qf D cI cZ cQ sa ad ks A pc ls (vI u :: vI x :: vR bb k i :: t) w := by
  obtain ⟨i', n', hd, hn, hr⟩ := get_rel hI (by decide)
  obtain ⟨rfl, rfl⟩ := isI_of hr
  subst hn
  intro H locs ls' hW hL hv hs
  have hq : ((bb, k, i) : Key) ∈ ks := vkh (vkt (vkt hs))
  obtain ⟨hwf, hP, hD, hS⟩ := id hW
  obtain ⟨q0, hq0, hat⟩ := wl_at (cI := cI) (cZ := cZ) (cQ := cQ) (sa := sa) (ad := ad) (w := w) hq
  rw [cellE_bool hk] at hat
  refine va_zast hF.1 hF.2.1 hC.1 hP hD hS q0 1 hat rfl hb hd (fun H1 locs1 hP1 hD1 hS1 => ?_)
  rw [wl_sAz hwf.1 hq0 hk] at hP1 hD1
  exact kk H1 locs1 ls' ⟨wf_sA hwf, hP1, hD1, hS1⟩ hL hv (vkt (vkt (vkt hs)))
theorem so_28 {bb : Bool} {k i n : Nat} {x : Int32} (hF : Fr y d p R s m args c cells slots) (hC : Cx D cI cZ cQ sa sv A s) (hI : ins y pc = (28, v, a, b, nx)) (hk : ki bb k = (3, n)) (hb : vp_in x n) (kk : GG y p l e R s m args below meth c cells slots Qf D cI cZ cQ sa ad ks A nx ls (vR false 9 x.toNatClampNeg :: t) w) : GG y p l e R s m args below meth c cells slots Qf D cI cZ cQ sa ad ks A pc ls (vI x :: vR bb k i :: t) w := by
  obtain ⟨i', n', hd, hn, hr⟩ := get_rel hI (by decide)
  obtain ⟨rfl, rfl⟩ := isI_of hr
  subst hn
  intro H locs ls' hW hL hv hs
  have hq : ((bb, k, i) : Key) ∈ ks := vkh (vkt hs)
  obtain ⟨hwf, hP, hD, hS⟩ := id hW
  obtain ⟨q0, hq0, hat⟩ := wl_at (cI := cI) (cZ := cZ) (cQ := cQ) (sa := sa) (ad := ad) (w := w) hq
  rw [cellE_per hk] at hat
  exact va_aldq (C := RX2) hF.1 hF.2.1 hC.1 hP q0 2 hat rfl hb hd (kk H locs ls' hW hL hv (vk1 (hwf.2.2 _ hq n hk _ (Nat.not_le.mp fun q => hb (Or.inr q))) (vkt (vkt hs))))
theorem so_48 {bb : Bool} {k i n : Nat} (hF : Fr y d p R s m args c cells slots) (hC : Cx D cI cZ cQ sa sv A s) (hI : ins y pc = (48, v, a, b, nx)) (hk : ki bb k = (1, n)) (kk : GG y p l e R s m args below meth c cells slots Qf D cI cZ cQ sa ad ks A nx ls (vI (nI n) :: t) w) : GG y p l e R s m args below meth c cells slots Qf D cI cZ cQ sa ad ks A pc ls (vR bb k i :: t) w := by
  obtain ⟨i', n', hd, hn, hr⟩ := get_rel hI (by decide)
  obtain ⟨rfl, rfl⟩ := isI_of hr
  subst hn
  intro H locs ls' hW hL hv hs
  have hq : ((bb, k, i) : Key) ∈ ks := vkh hs
  obtain ⟨hwf, hP, hD, hS⟩ := id hW
  obtain ⟨q0, hq0, hat⟩ := wl_at (cI := cI) (cZ := cZ) (cQ := cQ) (sa := sa) (ad := ad) (w := w) hq
  rw [cellE_int hk] at hat
  exact va_alen hF.1 hF.2.1 hC.1 hP q0 0 hat rfl rfl hd (kk H locs ls' hW hL hv (vk1 trivial (vkt hs)))
theorem so_48s {n : Nat} {xs : Nat → Int32} (hF : Fr y d p R s m args c cells slots) (hX : Sx (some (n, xs)) sa A s) (hI : ins y pc = (48, v, a, b, nx)) (kk : GG y p l e R s m args below meth c cells slots Qf D cI cZ cQ sa ad ks A nx ls (vI (nI n) :: t) w) : GG y p l e R s m args below meth c cells slots Qf D cI cZ cQ sa ad ks A pc ls (vS 99 :: t) w := by
  obtain ⟨i', n', hd, hn, hr⟩ := get_rel hI (by decide)
  obtain ⟨rfl, rfl⟩ := isI_of hr
  subst hn
  intro H locs ls' hW hL hv hs
  exact va_slen hF.1 hF.2.1 hX.1 hX.2.1 hX.2.2 hW.2.2.2 hd (kk H locs ls' hW hL hv (vk1 trivial (vkt hs)))
theorem so_7s {n : Nat} {xs : Nat → Int32} {x : Int32} (hF : Fr y d p R s m args c cells slots) (hX : Sx (some (n, xs)) sa A s) (hI : ins y pc = (7, v, a, b, nx)) (hb : vp_in x n) (kk : GG y p l e R s m args below meth c cells slots Qf D cI cZ cQ sa ad ks A nx ls (vI (xs x.toNatClampNeg) :: t) w) : GG y p l e R s m args below meth c cells slots Qf D cI cZ cQ sa ad ks A pc ls (vI x :: vS 99 :: t) w := by
  obtain ⟨i', n', hd, hn, hr⟩ := get_rel hI (by decide)
  obtain ⟨rfl, rfl⟩ := isI_of hr
  subst hn
  intro H locs ls' hW hL hv hs
  exact va_sld hF.1 hF.2.1 hX.1 hX.2.1 hX.2.2 hW.2.2.2 hb hd (kk H locs ls' hW hL hv (vk1 trivial (vkt (vkt hs))))
theorem cpS_len : cpS.length = 17 := by decide +kernel
theorem so_26 (hF : Fr y d p R s m args c cells slots) (hC : Cx D cI cZ cQ sa sv A s) (hI : ins y pc = (26, v, a, b, nx)) (k : GG y p l e R s m args below meth c cells slots Qf D cI cZ cQ sa ad ks A nx ls (vS a :: st) w) : GG y p l e R s m args below meth c cells slots Qf D cI cZ cQ sa ad ks A pc ls st w := by
  obtain ⟨i, n, hd, hn, hr⟩ := get_rel hI (by decide)
  subst hn
  intro H locs ls' hW hL hv hs
  simp only [rel] at hr
  split at hr
  · simp only [Bool.and_eq_true] at hr
    obtain ⟨h1, h2, h3⟩ := hr
    have h1 := nbeq h1
    obtain rfl := nbeq h2
    split at h3
    · rename_i e0 he
      obtain rfl := nbeq h3
      have ho := hF.2.2.2.1
      rw [h1] at ho
      have hlt : a < 17 := by
        have := (List.getElem?_eq_some_iff.mp he).1
        rw [cpS_len] at this
        exact this
      exact va_ldcS hF.1 hF.2.1 ho (hC.2.2.2.1 a e0 he) hd (k H locs ls' hW hL hv (vk1 (Or.inl hlt) hs))
    · cases h3
  · cases hr
theorem i32_small {k : Int} (h0 : 0 ≤ k) (h1 : k < 1000) : (Int32.ofInt k).toInt = k := by
  have hz : (Int32.size : Int) = 4294967296 := rfl
  rw [Int32.toInt_ofInt]
  exact Int.bmod_eq_of_le (by rw [hz]; omega) (by rw [hz]; omega)
theorem tswP_spec {x : Int32} {K : Nat → Prop} {d : Nat} : ∀ (ts : List Nat) (lo : Int), 0 ≤ lo → lo + (ts.length : Int) < 1000 → tswP x K d lo ts → (∀ (j t : Nat), ts[j]? = some t → x.toInt = lo + (j : Int) → K t) ∧ ((x.toInt < lo ∨ lo + (ts.length : Int) ≤ x.toInt) → K d)
  | [], lo, _, _, h => ⟨fun j t hj => by simp at hj, fun _ => h⟩
  | t :: ts, lo, h0, h1, h => by
    simp only [List.length_cons] at h1
    have hx : x = Int32.ofInt lo ↔ x.toInt = lo := by
      constructor
      · intro z
        rw [z]
        exact i32_small h0 (by omega)
      · intro z
        apply Int32.toInt_inj.mp
        rw [z, i32_small h0 (by omega)]
    obtain ⟨k1, k2⟩ := h
    refine ⟨fun j t' hj hjx => ?_, fun hz => ?_⟩
    · cases j with
      | zero =>
        simp at hj
        subst hj
        exact k1 (hx.mpr (by simpa using hjx))
      | succ j =>
        simp at hj
        have hne : ¬ x = Int32.ofInt lo := fun z => by
          have := hx.mp z
          simp only [Int.natCast_add] at hjx
          omega
        exact (tswP_spec ts (lo + 1) (by omega) (by omega) (k2 hne)).1 j t' hj (by simp only [Int.natCast_add] at hjx; omega)
    · have hne : ¬ x = Int32.ofInt lo := fun z => by
        have := hx.mp z
        simp only [List.length_cons] at hz
        omega
      exact (tswP_spec ts (lo + 1) (by omega) (by omega) (k2 hne)).2 (by simp only [List.length_cons] at hz; omega)
theorem so_37 {x : Int32} {lo : Int} {ts : List Nat} {K : Nat → Prop} (hF : Fr y d p R s m args c cells slots) (hI : ins y pc = (37, v, a, b, nx)) (ht : tsT.getD a (0, []) = (lo, ts)) (h : tswP x K b lo ts) (hK : ∀ q, K q → GG y p l e R s m args below meth c cells slots Qf D cI cZ cQ sa ad ks A q ls t w) : GG y p l e R s m args below meth c cells slots Qf D cI cZ cQ sa ad ks A pc ls (vI x :: t) w := by
  obtain ⟨i, n, hd, hn, hr⟩ := get_rel hI (by decide)
  subst hn
  intro H locs ls' hW hL hv hs
  have hK := fun q z => hK q z H locs ls' hW hL hv (vkt hs)
  simp only [rel, ht] at hr
  split at hr
  · rename_i dflt lo' hi offs
    simp only [Bool.and_eq_true, decide_eq_true_eq] at hr
    obtain ⟨h1, rfl, h3, h4, h5, h6⟩ := hr
    obtain ⟨k1, k2⟩ := tswP_spec ts lo h3 h6 h
    by_cases hx : x.toInt < lo ∨ hi < x.toInt
    · exact lv_tableOut hF.1 hF.2.1 hd hx h1 (hK _ (k2 (by omega)))
    · have hx1 : ¬ x.toInt < lo := fun z => hx (Or.inl z)
      have hx2 : ¬ hi < x.toInt := fun z => hx (Or.inr z)
      have hj : (x.toInt - lo).toNat < ts.length := by omega
      obtain ⟨t0, ht0⟩ : ∃ t0, ts[(x.toInt - lo).toNat]? = some t0 := ⟨_, List.getElem?_eq_getElem hj⟩
      have ho : (offs.toList.map (fun o => (pc : Int) + o))[(x.toInt - lo).toNat]? = some (Int.ofNat t0) := by
        rw [h5, List.getElem?_map, ht0]
        rfl
      rw [List.getElem?_map] at ho
      cases hoo : offs.toList[(x.toInt - lo).toNat]? with
      | none => rw [hoo] at ho; cases ho
      | some o0 =>
        rw [hoo] at ho
        have ho := Option.some.inj ho
        exact lv_tableIn hF.1 hF.2.1 hd hx1 hx2 (by rw [← Array.getElem?_toList]; exact hoo) ho (hK _ (k1 _ _ ht0 (by omega)))
  · cases hr
end SND2
end
section
theorem StrX.go {sa sv : Nat → Nat} {A A1 : Nat → Prop} {s U : State} {H : Heap} {locs : List Loc} (h : StrX sa sv A s) (hS : va_S A s.heap H locs) (hU : U.heap = H) (hw : s.WarmedH U.vm) (hsub : ∀ q, A1 q → A q) : StrX sa sv A1 U := by
  obtain ⟨h1, h2, h3, h4⟩ := h
  subst hU
  exact ⟨((h1.kept hS.2.1).moved hw.alike).narrow hsub, fun i e0 he => (h2 i e0 he).warm hw, ((h3.kept hS.2.1).moved hw.alike).narrow hsub, ((h4.kept hS.2.1).moved hw.alike).narrow hsub⟩
theorem Cx.go {D : va_G} {cI cZ cQ : ClassId} {sa sv : Nat → Nat} {A A1 : Nat → Prop} {s U : State} {H : Heap} {locs : List Loc} (h : Cx D cI cZ cQ sa sv A s) (hS : va_S A s.heap H locs) (hU : U.heap = H) (hw : s.WarmedH U.vm) (hsub : ∀ q, A1 q → A q) : Cx D cI cZ cQ sa sv A1 U :=
  ⟨h.1.moved hw.alike, fun e0 he hk => va_Nw.warmM hw (h.2.1 e0 he hk), h.2.2.go hS hU hw hsub⟩
theorem Pre0.blind {av : List Value} {D : va_G} {cI cZ cQ : ClassId} {sa sv : Nat → Nat} {ad : Key → Nat} {ks : List Key} {w : Wd} {sz : Nat} : FrameBlind (va_Pc av (Pre0 D cI cZ cQ sa sv ad ks w sz)) := by
  intro a' U g mk h
  obtain ⟨h1, h2, h3, h4, h5, h6, h7, h8, h9, h10⟩ := h
  refine ⟨h1, h2, h3, h4, va_K.moved (u := U) (U := U.calling g mk a') (Vm.Alike.refl U.vm) h5, fun e0 he hk => va_Nw.same (u := U) (U := U.calling g mk a') rfl rfl (h6 e0 he hk), vk_S.moved (u := U) (U := U.calling g mk a') (Vm.Alike.refl U.vm) h7, fun i e0 he => vk_R.same (u := U) (U := U.calling g mk a') rfl (h8 i e0 he), va_Z.moved (u := U) (U := U.calling g mk a') (Vm.Alike.refl U.vm) h9, va_Zq.moved (u := U) (U := U.calling g mk a') (Vm.Alike.refl U.vm) h10⟩
theorem popN_spec : ∀ (n : Nat) (st acc av t : List PV), popN n st acc = some (av, t) → ∃ pre : List PV, st = pre ++ t ∧ pre.length = n ∧ av = pre.reverse ++ acc
  | 0, st, acc, av, t, h => by
    simp only [popN, Option.some.injEq, Prod.mk.injEq] at h
    exact ⟨[], by rw [h.2]; rfl, rfl, by rw [h.1]; rfl⟩
  | n + 1, [], acc, av, t, h => by simp [popN] at h
  | n + 1, v :: st, acc, av, t, h => by
    simp only [popN] at h
    obtain ⟨pre, h1, h2, h3⟩ := popN_spec n st (v :: acc) av t h
    exact ⟨v :: pre, by rw [h1]; rfl, by simp [h2], by rw [h3]; simp⟩
theorem csum_conc {sa : Nat → Nat} {ad : Key → Nat} : ∀ t : List PV, ((t.map (conc sa ad)).map fun v => v.category).sum = csum t
  | [] => rfl
  | .inl x :: t => by simp only [List.map_cons, List.sum_cons, csum, csum_conc t]; rfl
  | .inr (.inl x) :: t => by simp only [List.map_cons, List.sum_cons, csum, csum_conc t]; rfl
  | .inr (.inr (.inl x)) :: t => by simp only [List.map_cons, List.sum_cons, csum, csum_conc t]; rfl
  | .inr (.inr (.inr x)) :: t => by simp only [List.map_cons, List.sum_cons, csum, csum_conc t]; rfl
section SND3
variable {d y : Nat} {scr : Option (Nat × (Nat → Int32))} {Q : Wd → Option PV → Prop} {p : Program} {l : Launch} {e : Env} {R : Room} {s : State} {m : MethodId} {args : Array Value} {below : List Frame} {meth : Method} {c : Code} {cells slots : Nat} {Qf : State → Prop} {D : va_G} {cI cZ cQ : ClassId} {sa sv : Nat → Nat} {ad : Key → Nat} {ks : List Key} {A : Nat → Prop}
variable {pc : Nat} {ls : Ls} {st t : List PV} {w : Wd} {v : Int32} {a b nx : Nat}
theorem call_k {a' : Array Value} {pc : Nat} {ls' : Array Slot} {st0 rest : List Value} {H : Heap} {locs : List Loc} {Q' : Wd → Option PV → Prop} (hr : va_Run p l e R s m args below meth c H locs cells slots 0 0 (F0 m pc ls' st0) rest (Post0 D cI cZ cQ sa ad ks Q' (va_A (wl cI cZ cQ sa ad ks w) H.size) a') (va_A (wl cI cZ cQ sa ad ks w) H.size)) (hW : Wx s D cI cZ cQ sa ad ks A w H locs) (hA : ∀ q, s.heap.size ≤ q → A q)
    (kk : ∀ (w' : Wd) (r : Option PV) (H1 : Heap) (locs1 : List Loc), Q' w' r → Wx s D cI cZ cQ sa ad ks A w' H1 locs1 → (∀ v, r = some v → vok ks v) → W p l e R s m args below meth c H1 locs1 cells slots Qf (F0 m (pc + 3) ls' (r.toList.map (conc sa ad) ++ rest))) : W p l e R s m args below meth c H locs cells slots Qf (F0 m pc ls' st0) := by
  intro T hT X
  obtain ⟨v, st₀, t, T', L, h0, X', hL, e1, e2, ⟨⟨w', r, hv, hq, hwf', hvr, hP'⟩, hz, hk⟩, st⟩ := hr T hT X
  obtain ⟨hwf, hP, hD, hS⟩ := hW
  rw [h0] at hz hk
  have hv : v = r.map (conc sa ad) := by injection hv
  have hsub : ∀ q, va_A (wl cI cZ cQ sa ad ks w) H.size q → A q := by
    intro q h
    rcases h with ⟨k, e0, h⟩ | h
    · exact hD.2 k (q, e0) h
    · exact hA q (Nat.le_trans hS.1 h)
  obtain ⟨t2, a1, b1⟩ := kk w' r T'.heap (locs ++ L) hq ⟨hwf', by rw [e1]; exact hP', va_D_w hD, Nat.le_trans hS.1 (by rw [e1]; exact hz), fun q h1 h2 => by rw [e1, hk q (Nat.lt_of_lt_of_le h1 hS.1) (fun z => h2 (hsub q z))]; exact hS.2.1 q h1 h2, fun q hq => by
      rcases List.mem_append.mp hq with h | h
      · exact hS.2.2 q h
      · exact hsub _ (hL q h)⟩ hvr T' rfl X'
  refine ⟨t2, st t2 ?_, b1⟩
  subst hv
  cases r with
  | none => exact a1
  | some u => exact a1
theorem sub_A {H : Heap} {locs : List Loc} (hW : Wx s D cI cZ cQ sa ad ks A w H locs) (hA : ∀ q, s.heap.size ≤ q → A q) : ∀ q, va_A (wl cI cZ cQ sa ad ks w) H.size q → A q := by
  intro q h
  obtain ⟨hwf, hP, hD, hS⟩ := hW
  rcases h with ⟨k, e0, h⟩ | h
  · exact hD.2 k (q, e0) h
  · exact hA q (Nat.le_trans hS.1 h)
theorem pre_U {av : List PV} {H : Heap} {locs : List Loc} (hC : Cx D cI cZ cQ sa sv A s) (hW : Wx s D cI cZ cQ sa ad ks A w H locs) (hA : ∀ q, s.heap.size ≤ q → A q) : ∀ U : State, U.heap = H → s.WarmedH U.vm → va_Pc (av.map (conc sa ad)) (Pre0 D cI cZ cQ sa sv ad ks w H.size) (av.map (conc sa ad)).toArray U := by
  intro U hU hw
  have hs := sub_A hW hA
  obtain ⟨hwf, hP, hD, hS⟩ := hW
  exact ⟨rfl, by rw [hU], by rw [hU]; exact hP, hD.weaken (fun _ _ _ _ => trivial), hC.go hS hU hw hs⟩
theorem goodw {a : Nat} (h : Cond.code (yN a) (yC a) (yL a) (yR a) ∈ gtb) : GoodIn gtb (ywd a) := by
  intro w hw
  rcases List.mem_cons.mp hw with e0 | h1
  · subst e0
    exact gtb_good _ h
  · exact gtb_good _ h1
set_option maxHeartbeats 8000000 in
theorem so_3 {av : List PV} {d' : Nat} {Q' : Wd → Option PV → Prop} {K : Wd → Option PV → Prop} (hF : Fr y d p R s m args c cells slots) (hC : Cx D cI cZ cQ sa sv A s) (hA : ∀ q, s.heap.size ≤ q → A q) (hI : ins y pc = (3, v, a, b, nx)) (hp : popN (b % 8) st [] = some (av, t)) (hk : rck (b / 8) av = true) (hc : csum t ≤ 8) (hd' : d' < d) (hM : Ctr d' a av w Q') (kk : ∀ w' r, Q' w' r → K w' r) (k1 : ∀ w', K w' none → GG y p l e R s m args below meth c cells slots Qf D cI cZ cQ sa ad ks A nx ls t w') (k2 : ∀ w' u, K w' (some u) → GG y p l e R s m args below meth c cells slots Qf D cI cZ cQ sa ad ks A nx ls (u :: t) w') : GG y p l e R s m args below meth c cells slots Qf D cI cZ cQ sa ad ks A pc ls st w := by
  obtain ⟨i, n, hd, hn, hr⟩ := get_rel hI (by decide)
  subst hn
  intro H locs ls' hW hL hv hs
  obtain ⟨pre, h1, h2, h3⟩ := popN_spec _ _ _ _ _ hp
  rw [List.append_nil] at h3
  subst h1
  have hav : ∀ u ∈ av, vok ks u := fun u hu => hs u (List.mem_append_left _ (by rw [h3] at hu; exact List.mem_reverse.mp hu))
  have hst : ∀ u ∈ t, vok ks u := fun u hu => hs u (List.mem_append_right _ hu)
  have hM := hM l D cI cZ cQ sa sv ad ks H.size hW.1 hav
  have hfr : d' + 1 ≤ R.frames := Nat.le_trans hd' hF.2.2.2.2.2.1
  have hlo : yL a ≤ 20 → 8 + (yL a + 11) + 40 * d' ≤ R.locals := fun h => by
    have := hF.2.2.2.2.2.2.1
    omega
  have hfin : ∀ (w' : Wd) (r : Option PV) (H1 : Heap) (locs1 : List Loc), Q' w' r → Wx s D cI cZ cQ sa ad ks A w' H1 locs1 → (∀ v, r = some v → vok ks v) → W p l e R s m args below meth c H1 locs1 cells slots Qf (F0 m (pc + 3) ls' (r.toList.map (conc sa ad) ++ t.map (conc sa ad))) → True := fun _ _ _ _ _ _ _ _ => trivial
  have hroom : ((t.map (conc sa ad)).map fun v => v.category).sum ≤ 8 := by rw [csum_conc]; exact hc
  have hcs : cells + 0 ≤ R.cells ∧ slots + 0 ≤ R.slots := hF.2.2.2.2.2.2.2
  have hmap : (pre ++ t).map (conc sa ad) = (av.map (conc sa ad)).reverse ++ t.map (conc sa ad) := by
    rw [h3, List.map_append, List.map_reverse, List.reverse_reverse]
  have hlen : av.length = b % 8 := by rw [h3, List.length_reverse, h2]
  have hgo : ∀ (w' : Wd) (r : Option PV) (H1 : Heap) (locs1 : List Loc), n = 3 → Q' w' r → Wx s D cI cZ cQ sa ad ks A w' H1 locs1 → (∀ v, r = some v → vok ks v) → W p l e R s m args below meth c H1 locs1 cells slots Qf (F0 m (pc + 3) ls' (r.toList.map (conc sa ad) ++ t.map (conc sa ad))) := by
    intro w' r H1 locs1 hn3 hq hW1 hvr
    subst hn3
    cases r with
    | none => exact k1 w' (kk _ _ hq) H1 locs1 ls' hW1 hL hv hst
    | some u => exact k2 w' u (kk _ _ hq) H1 locs1 ls' hW1 hL hv (vk1 (hvr u rfl) hst)
  simp only [rel] at hr
  split at hr
  · simp only [Bool.and_eq_true] at hr
    obtain ⟨g1, g2⟩ := hr
    obtain rfl := nbeq g2
    obtain ⟨m1, m2, ⟨m3, m4, m5, m6, m7⟩, m8, m9, m10, m11, m12⟩ := cpM_0 g1
    rw [m9] at hk
    match av, hk with
    | .inr (.inr (.inl (bb, k, i))) :: as, hk =>
      have hki := kc_of (show kc bb k (yO a) = true from hk)
      have hq : ((bb, k, i) : Key) ∈ ks := hav _ List.mem_cons_self
      obtain ⟨q0, hq0, hat⟩ := wl_at (cI := cI) (cZ := cZ) (cQ := cQ) (sa := sa) (ad := ad) (w := w) hq
      rw [cellE_obj hki] at hat
      obtain ⟨hc1, -⟩ := cl_ok (yO a) m11
      refine call_k (va_runV (C := (yN a).cls) (As := as.map (conc sa ad)) (rest := t.map (conc sa ad)) (bytes := yC a) (maxL := yL a) (ret := yR a) ⟨hF.1, hF.2.1, hF.2.2.1, hF.2.2.2.1, hF.2.2.2.2.1⟩ hM ⟨callB_of (b % 8 - 1) hF.2.2.2.2.1 (goodw m7) rfl rfl rfl (hF.2.2.2.2.1 _ m6) (hF.2.2.2.2.1 _ m3) ⟨m1.1, m1.2, m8⟩ ⟨hfr, hlo m2⟩, hF.2.2.2.2.1 _ m4, hF.2.2.2.2.1 _ m5⟩ ⟨Pre0.blind, ?_, pre_U (av := .inr (.inr (.inl (bb, k, i))) :: as) hC hW hA⟩ rfl ?_ hL.1 ?_ (lv_room hroom) hd hcs) hW hA (fun w' r H1 locs1 hq hW1 hvr => hgo w' r H1 locs1 rfl hq hW1 hvr)
      · have := va_recv hC.1 hW.2.1 hc1 hat
        rw [m12] at this
        exact this
      · have : (as.length + 1) = b % 8 := hlen
        rw [List.length_map]
        omega
      · show (pre ++ t).map (conc sa ad) = _
        rw [hmap]
        simp [conc]
    | [], hk => simp [rck] at hk
    | .inl _ :: _, hk => simp [rck] at hk
    | .inr (.inl _) :: _, hk => simp [rck] at hk
    | .inr (.inr (.inr _)) :: _, hk => simp [rck] at hk
  · rename_i idx'
    simp only [Bool.and_eq_true, Bool.or_eq_true] at hr
    obtain ⟨g1, g2⟩ := hr
    obtain rfl := nbeq g2
    rcases g1 with g1 | g1
    · obtain ⟨m1, m2, ⟨m3, m4, m5, m6⟩, m7, m8⟩ := cpM_1 g1
      refine call_k (va_runS (As := av.map (conc sa ad)) (rest := t.map (conc sa ad)) (bytes := yC a) (maxL := yL a) (ret := yR a) ⟨hF.1, hF.2.1, hF.2.2.1, hF.2.2.2.1, hF.2.2.2.2.1⟩ hM ⟨callB_of b hF.2.2.2.2.1 (goodw m6) rfl rfl rfl (hF.2.2.2.2.1 _ m5) (hF.2.2.2.2.1 _ m3) ⟨m1.1, m1.2, m7⟩ ⟨hfr, hlo m2⟩, hF.2.2.2.2.1 _ m4⟩ ⟨Pre0.blind, pre_U hC hW hA⟩ rfl ?_ hL.1 hmap (lv_room hroom) hd hcs) hW hA (fun w' r H1 locs1 hq hW1 hvr => hgo w' r H1 locs1 rfl hq hW1 hvr)
      rw [List.length_map, hlen]
      omega
    · obtain ⟨ps, m0, m1, m2, ⟨m4, m5, m6⟩, m7, m8⟩ := cpM_2 g1
      have hnw : va_Nw (.methodLinkNest (cN (yO y)) idx' (yN a) "IfYouWill") s := hC.2.1 _ m0 rfl
      refine call_k (va_runSN (own := cN (yO y)) (host := "IfYouWill") (index := idx') (As := av.map (conc sa ad)) (rest := t.map (conc sa ad)) (bytes := yC a) (maxL := yL a) (ret := yR a) ⟨hF.1, hF.2.1, hF.2.2.1, hF.2.2.2.1, hF.2.2.2.2.1⟩ hM ⟨va_cnB b hF.2.2.2.2.1 (goodw m6) rfl rfl rfl hnw (hF.2.2.2.2.1 _ m5) ⟨m1.1, m1.2, m7⟩ ⟨hfr, hlo m2⟩, hF.2.2.2.2.1 _ m4, trivial⟩ ⟨Pre0.blind, pre_U hC hW hA⟩ rfl ?_ hL.1 hmap (lv_room hroom) hd hcs) hW hA (fun w' r H1 locs1 hq hW1 hvr => hgo w' r H1 locs1 rfl hq hW1 hvr)
      rw [List.length_map, hlen]
      omega
  · cases hr
theorem so_19 (hfin : (∀ (pc' : Nat) (w' : Wd) (r : Option PV) (H : Heap) (locs : List Loc) (ls' : Array Slot), Wx s D cI cZ cQ sa ad ks A w' H locs → (∀ v, r = some v → vok ks v) → rtk y pc' r → Q w' r → W p l e R s m args below meth c H locs cells slots Qf (F0 m pc' ls' (r.toList.map (conc sa ad))))) (hI : ins y pc = (19, v, a, b, nx)) (hq : Q w none) : GG y p l e R s m args below meth c cells slots Qf D cI cZ cQ sa ad ks A pc ls [] w := by
  obtain ⟨i, n, hd, hn, hr⟩ := get_rel hI (by decide)
  simp only [rel, isI, Bool.and_eq_true, decide_eq_true_eq] at hr
  obtain ⟨rfl, h2, h3⟩ := hr
  obtain rfl := nbeq h2
  intro H locs ls' hW hL hv hs
  exact hfin pc w none H locs ls' hW (fun u hu => by cases hu) ⟨hd, h3⟩ hq
theorem so_5 {x : Int32} (hfin : (∀ (pc' : Nat) (w' : Wd) (r : Option PV) (H : Heap) (locs : List Loc) (ls' : Array Slot), Wx s D cI cZ cQ sa ad ks A w' H locs → (∀ v, r = some v → vok ks v) → rtk y pc' r → Q w' r → W p l e R s m args below meth c H locs cells slots Qf (F0 m pc' ls' (r.toList.map (conc sa ad))))) (hI : ins y pc = (5, v, a, b, nx)) (hq : Q w (some (vI x))) : GG y p l e R s m args below meth c cells slots Qf D cI cZ cQ sa ad ks A pc ls [vI x] w := by
  obtain ⟨i, n, hd, hn, hr⟩ := get_rel hI (by decide)
  simp only [rel, isI, Bool.and_eq_true, decide_eq_true_eq] at hr
  obtain ⟨rfl, h2, h3⟩ := hr
  obtain rfl := nbeq h2
  intro H locs ls' hW hL hv hs
  exact hfin pc w (some (vI x)) H locs ls' hW (fun u hu => by cases hu; trivial) ⟨hd, _, h3, rfl⟩ hq
theorem so_54 {x : Int32} (hfin : (∀ (pc' : Nat) (w' : Wd) (r : Option PV) (H : Heap) (locs : List Loc) (ls' : Array Slot), Wx s D cI cZ cQ sa ad ks A w' H locs → (∀ v, r = some v → vok ks v) → rtk y pc' r → Q w' r → W p l e R s m args below meth c H locs cells slots Qf (F0 m pc' ls' (r.toList.map (conc sa ad))))) (hI : ins y pc = (54, v, a, b, nx)) (hz : zok x) (hq : Q w (some (vI x))) : GG y p l e R s m args below meth c cells slots Qf D cI cZ cQ sa ad ks A pc ls [vI x] w := by
  obtain ⟨i, n, hd, hn, hr⟩ := get_rel hI (by decide)
  simp only [rel, isI, Bool.and_eq_true, decide_eq_true_eq] at hr
  obtain ⟨rfl, h2, h3⟩ := hr
  obtain rfl := nbeq h2
  intro H locs ls' hW hL hv hs
  exact hfin pc w (some (vI x)) H locs ls' hW (fun u hu => by cases hu; trivial) ⟨hd, _, h3, hz⟩ hq
theorem so_51 {q : Key} (hfin : (∀ (pc' : Nat) (w' : Wd) (r : Option PV) (H : Heap) (locs : List Loc) (ls' : Array Slot), Wx s D cI cZ cQ sa ad ks A w' H locs → (∀ v, r = some v → vok ks v) → rtk y pc' r → Q w' r → W p l e R s m args below meth c H locs cells slots Qf (F0 m pc' ls' (r.toList.map (conc sa ad))))) (hI : ins y pc = (51, v, a, b, nx)) (hq : Q w (some (.inr (.inr (.inl q))))) : GG y p l e R s m args below meth c cells slots Qf D cI cZ cQ sa ad ks A pc ls [.inr (.inr (.inl q))] w := by
  obtain ⟨i, n, hd, hn, hr⟩ := get_rel hI (by decide)
  simp only [rel, isI, Bool.and_eq_true, decide_eq_true_eq] at hr
  obtain ⟨rfl, h2, h3⟩ := hr
  obtain rfl := nbeq h2
  intro H locs ls' hW hL hv hs
  exact hfin pc w (some (.inr (.inr (.inl q)))) H locs ls' hW (fun u hu => by cases hu; exact vkh hs) ⟨hd, _, h3⟩ hq
theorem so_52 {i : Nat} (hF : Fr y d p R s m args c cells slots) (hC : Cx D cI cZ cQ sa sv A s) (hI : ins y pc = (52, v, a, b, nx)) (hi : i < 17) (hd3 : 3 < d) (kk : GG y p l e R s m args below meth c cells slots Qf D cI cZ cQ sa ad ks A nx ls (vI (nI (sLen i)) :: t) w) : GG y p l e R s m args below meth c cells slots Qf D cI cZ cQ sa ad ks A pc ls (vS i :: t) w := by
  sorry
theorem so_53 {i : Nat} {x : Int32} (hF : Fr y d p R s m args c cells slots) (hC : Cx D cI cZ cQ sa sv A s) (hI : ins y pc = (53, v, a, b, nx)) (hi : i < 17) (hd6 : 6 < d) (hx : vp_in x (sLen i)) (kk : GG y p l e R s m args below meth c cells slots Qf D cI cZ cQ sa ad ks A nx ls (vI (sCh i x.toNatClampNeg) :: t) w) : GG y p l e R s m args below meth c cells slots Qf D cI cZ cQ sa ad ks A pc ls (vI x :: vS i :: t) w := by
  sorry
end SND3
end
section
section SND4
variable {d y : Nat} {scr : Option (Nat × (Nat → Int32))} {Q : Wd → Option PV → Prop} {p : Program} {l : Launch} {e : Env} {R : Room} {s : State} {m : MethodId} {args : Array Value} {below : List Frame} {meth : Method} {c : Code} {cells slots : Nat} {Qf : State → Prop} {D : va_G} {cI cZ cQ : ClassId} {sa sv : Nat → Nat} {ad : Key → Nat} {ks : List Key} {A : Nat → Prop}
variable {pc : Nat} {ls : Ls} {st : List PV} {w : Wd}
theorem st_0 {u0 : Int32} {a b nx : Nat} {kk : Nat → Ls → List PV → Wd → Prop} (h : (match ls[a]? with
    | some (some v) => (match tyck b v with
      | true => kk nx ls (v :: st) w
      | false => False)
    | _ => False)) (hF : Fr y d p R s m args c cells slots) (hC : Cx D cI cZ cQ sa sv A s) (hX : Sx scr sa A s) (hA : ∀ q, s.heap.size ≤ q → A q) (hfin : (∀ (pc' : Nat) (w' : Wd) (r : Option PV) (H : Heap) (locs : List Loc) (ls' : Array Slot), Wx s D cI cZ cQ sa ad ks A w' H locs → (∀ v, r = some v → vok ks v) → rtk y pc' r → Q w' r → W p l e R s m args below meth c H locs cells slots Qf (F0 m pc' ls' (r.toList.map (conc sa ad))))) (hI : ins y pc = (0, u0, a, b, nx)) (hk : ∀ (pc' : Nat) (ls' : Ls) (st' : List PV) (w' : Wd), kk pc' ls' st' w' → GG y p l e R s m args below meth c cells slots Qf D cI cZ cQ sa ad ks A pc' ls' st' w') : GG y p l e R s m args below meth c cells slots Qf D cI cZ cQ sa ad ks A pc ls st w := by
  split at h
  · rename_i u hl
    split at h
    · rename_i hu
      exact so_0 hF hI hl hu (hk _ _ _ _ h)
    · exact h.elim
  · exact h.elim
theorem st_1 {u0 : Int32} {a f nx : Nat} {kk : Nat → Ls → List PV → Wd → Prop} (h : (match st with
    | .inr (.inr (.inl (b, k, i))) :: t => (match kc b k a with
      | true => kk nx ls (fval w b k i a f :: t) w
      | false => False)
    | _ => False)) (hF : Fr y d p R s m args c cells slots) (hC : Cx D cI cZ cQ sa sv A s) (hX : Sx scr sa A s) (hA : ∀ q, s.heap.size ≤ q → A q) (hfin : (∀ (pc' : Nat) (w' : Wd) (r : Option PV) (H : Heap) (locs : List Loc) (ls' : Array Slot), Wx s D cI cZ cQ sa ad ks A w' H locs → (∀ v, r = some v → vok ks v) → rtk y pc' r → Q w' r → W p l e R s m args below meth c H locs cells slots Qf (F0 m pc' ls' (r.toList.map (conc sa ad))))) (hI : ins y pc = (1, u0, a, f, nx)) (hk : ∀ (pc' : Nat) (ls' : Ls) (st' : List PV) (w' : Wd), kk pc' ls' st' w' → GG y p l e R s m args below meth c cells slots Qf D cI cZ cQ sa ad ks A pc' ls' st' w') : GG y p l e R s m args below meth c cells slots Qf D cI cZ cQ sa ad ks A pc ls st w := by
  split at h
  · split at h
    · rename_i hkc
      exact so_1 hF hC hI hkc (hk _ _ _ _ h)
    · exact h.elim
  · exact h.elim
theorem st_2 {v : Int32} {u1 u2 nx : Nat} {kk : Nat → Ls → List PV → Wd → Prop} (h : kk nx ls (vI v :: st) w) (hF : Fr y d p R s m args c cells slots) (hC : Cx D cI cZ cQ sa sv A s) (hX : Sx scr sa A s) (hA : ∀ q, s.heap.size ≤ q → A q) (hfin : (∀ (pc' : Nat) (w' : Wd) (r : Option PV) (H : Heap) (locs : List Loc) (ls' : Array Slot), Wx s D cI cZ cQ sa ad ks A w' H locs → (∀ v, r = some v → vok ks v) → rtk y pc' r → Q w' r → W p l e R s m args below meth c H locs cells slots Qf (F0 m pc' ls' (r.toList.map (conc sa ad))))) (hI : ins y pc = (2, v, u1, u2, nx)) (hk : ∀ (pc' : Nat) (ls' : Ls) (st' : List PV) (w' : Wd), kk pc' ls' st' w' → GG y p l e R s m args below meth c cells slots Qf D cI cZ cQ sa ad ks A pc' ls' st' w') : GG y p l e R s m args below meth c cells slots Qf D cI cZ cQ sa ad ks A pc ls st w := by
  exact so_2 hF hI (hk _ _ _ _ h)
theorem st_3 {u0 : Int32} {a n nx : Nat} {kk : Nat → Ls → List PV → Wd → Prop} (h : (match popN (n % 8) st [] with
    | some (av, t) => (match rck (n / 8) av && Nat.ble (csum t) 8 with
      | true => Inv d a av w (fun w' r => match r with
        | none => kk nx ls t w'
        | some v => kk nx ls (v :: t) w')
      | false => False)
    | none => False)) (hF : Fr y d p R s m args c cells slots) (hC : Cx D cI cZ cQ sa sv A s) (hX : Sx scr sa A s) (hA : ∀ q, s.heap.size ≤ q → A q) (hfin : (∀ (pc' : Nat) (w' : Wd) (r : Option PV) (H : Heap) (locs : List Loc) (ls' : Array Slot), Wx s D cI cZ cQ sa ad ks A w' H locs → (∀ v, r = some v → vok ks v) → rtk y pc' r → Q w' r → W p l e R s m args below meth c H locs cells slots Qf (F0 m pc' ls' (r.toList.map (conc sa ad))))) (hI : ins y pc = (3, u0, a, n, nx)) (hk : ∀ (pc' : Nat) (ls' : Ls) (st' : List PV) (w' : Wd), kk pc' ls' st' w' → GG y p l e R s m args below meth c cells slots Qf D cI cZ cQ sa ad ks A pc' ls' st' w') : GG y p l e R s m args below meth c cells slots Qf D cI cZ cQ sa ad ks A pc ls st w := by
  split at h
  · rename_i av t hp
    split at h
    · rename_i hb
      obtain ⟨d', Q', hd', hM, hK⟩ := h
      simp only [Bool.and_eq_true] at hb
      exact so_3 hF hC hA hI hp hb.1 (Nat.le_of_ble_eq_true hb.2) hd' hM hK (fun w' z => hk _ _ _ _ z) (fun w' u z => hk _ _ _ _ z)
    · exact h.elim
  · exact h.elim
theorem st_4 {u0 : Int32} {a u2 u3 : Nat} {kk : Nat → Ls → List PV → Wd → Prop} (h : kk a ls st w) (hF : Fr y d p R s m args c cells slots) (hC : Cx D cI cZ cQ sa sv A s) (hX : Sx scr sa A s) (hA : ∀ q, s.heap.size ≤ q → A q) (hfin : (∀ (pc' : Nat) (w' : Wd) (r : Option PV) (H : Heap) (locs : List Loc) (ls' : Array Slot), Wx s D cI cZ cQ sa ad ks A w' H locs → (∀ v, r = some v → vok ks v) → rtk y pc' r → Q w' r → W p l e R s m args below meth c H locs cells slots Qf (F0 m pc' ls' (r.toList.map (conc sa ad))))) (hI : ins y pc = (4, u0, a, u2, u3)) (hk : ∀ (pc' : Nat) (ls' : Ls) (st' : List PV) (w' : Wd), kk pc' ls' st' w' → GG y p l e R s m args below meth c cells slots Qf D cI cZ cQ sa ad ks A pc' ls' st' w') : GG y p l e R s m args below meth c cells slots Qf D cI cZ cQ sa ad ks A pc ls st w := by
  exact so_4 hF hI (hk _ _ _ _ h)
theorem st_5 {u0 : Int32} {u1 u2 u3 : Nat} {kk : Nat → Ls → List PV → Wd → Prop} (h : (match st with
    | [.inl x] => Q w (some (vI x))
    | _ => False)) (hF : Fr y d p R s m args c cells slots) (hC : Cx D cI cZ cQ sa sv A s) (hX : Sx scr sa A s) (hA : ∀ q, s.heap.size ≤ q → A q) (hfin : (∀ (pc' : Nat) (w' : Wd) (r : Option PV) (H : Heap) (locs : List Loc) (ls' : Array Slot), Wx s D cI cZ cQ sa ad ks A w' H locs → (∀ v, r = some v → vok ks v) → rtk y pc' r → Q w' r → W p l e R s m args below meth c H locs cells slots Qf (F0 m pc' ls' (r.toList.map (conc sa ad))))) (hI : ins y pc = (5, u0, u1, u2, u3)) (hk : ∀ (pc' : Nat) (ls' : Ls) (st' : List PV) (w' : Wd), kk pc' ls' st' w' → GG y p l e R s m args below meth c cells slots Qf D cI cZ cQ sa ad ks A pc' ls' st' w') : GG y p l e R s m args below meth c cells slots Qf D cI cZ cQ sa ad ks A pc ls st w := by
  split at h
  · exact so_5 hfin hI h
  · exact h.elim
theorem st_6 {u0 : Int32} {a u2 nx : Nat} {kk : Nat → Ls → List PV → Wd → Prop} (h : (match st with
    | .inl x :: t => Br (x = 0) (kk a ls t w) (kk nx ls t w)
    | _ => False)) (hF : Fr y d p R s m args c cells slots) (hC : Cx D cI cZ cQ sa sv A s) (hX : Sx scr sa A s) (hA : ∀ q, s.heap.size ≤ q → A q) (hfin : (∀ (pc' : Nat) (w' : Wd) (r : Option PV) (H : Heap) (locs : List Loc) (ls' : Array Slot), Wx s D cI cZ cQ sa ad ks A w' H locs → (∀ v, r = some v → vok ks v) → rtk y pc' r → Q w' r → W p l e R s m args below meth c H locs cells slots Qf (F0 m pc' ls' (r.toList.map (conc sa ad))))) (hI : ins y pc = (6, u0, a, u2, nx)) (hk : ∀ (pc' : Nat) (ls' : Ls) (st' : List PV) (w' : Wd), kk pc' ls' st' w' → GG y p l e R s m args below meth c cells slots Qf D cI cZ cQ sa ad ks A pc' ls' st' w') : GG y p l e R s m args below meth c cells slots Qf D cI cZ cQ sa ad ks A pc ls st w := by
  split at h
  · exact so_6 hF hI (fun z => hk _ _ _ _ (h.1 z)) (fun z => hk _ _ _ _ (h.2 z))
  · exact h.elim
theorem st_7 {u0 : Int32} {u1 u2 nx : Nat} {kk : Nat → Ls → List PV → Wd → Prop} (h : (match st with
    | .inl x :: .inr (.inr (.inl (b, k, i))) :: t => (match ki b k with
      | (1, n) => Bd x n (kk nx ls (vI (wA w b k i x.toNatClampNeg) :: t) w)
      | _ => False)
    | .inl x :: .inr (.inr (.inr 99)) :: t => (match scr with
      | some (n, xs) => Bd x n (kk nx ls (vI (xs x.toNatClampNeg) :: t) w)
      | none => False)
    | _ => False)) (hF : Fr y d p R s m args c cells slots) (hC : Cx D cI cZ cQ sa sv A s) (hX : Sx scr sa A s) (hA : ∀ q, s.heap.size ≤ q → A q) (hfin : (∀ (pc' : Nat) (w' : Wd) (r : Option PV) (H : Heap) (locs : List Loc) (ls' : Array Slot), Wx s D cI cZ cQ sa ad ks A w' H locs → (∀ v, r = some v → vok ks v) → rtk y pc' r → Q w' r → W p l e R s m args below meth c H locs cells slots Qf (F0 m pc' ls' (r.toList.map (conc sa ad))))) (hI : ins y pc = (7, u0, u1, u2, nx)) (hk : ∀ (pc' : Nat) (ls' : Ls) (st' : List PV) (w' : Wd), kk pc' ls' st' w' → GG y p l e R s m args below meth c cells slots Qf D cI cZ cQ sa ad ks A pc' ls' st' w') : GG y p l e R s m args below meth c cells slots Qf D cI cZ cQ sa ad ks A pc ls st w := by
  split at h
  · split at h
    · rename_i n hn
      exact so_7 hF hC hI hn h.1 (hk _ _ _ _ h.2)
    · exact h.elim
  · split at h
    · exact so_7s hF hX hI h.1 (hk _ _ _ _ h.2)
    · exact h.elim
  · exact h.elim
theorem st_8 {u0 : Int32} {a f nx : Nat} {kk : Nat → Ls → List PV → Wd → Prop} (h : (match st with
    | v :: .inr (.inr (.inl (b, k, i))) :: t => (match kc b k a with
      | true => (match fk a f, v with
        | (0, _), .inl x => kk nx ls t (sF w b k i f x)
        | (3, c), .inr (.inr (.inl (b', k', i'))) => (match b == b' && Nat.beq c k' with
          | true => kk nx ls t (sR w b k i i')
          | false => False)
        | _, _ => False)
      | false => False)
    | _ => False)) (hF : Fr y d p R s m args c cells slots) (hC : Cx D cI cZ cQ sa sv A s) (hX : Sx scr sa A s) (hA : ∀ q, s.heap.size ≤ q → A q) (hfin : (∀ (pc' : Nat) (w' : Wd) (r : Option PV) (H : Heap) (locs : List Loc) (ls' : Array Slot), Wx s D cI cZ cQ sa ad ks A w' H locs → (∀ v, r = some v → vok ks v) → rtk y pc' r → Q w' r → W p l e R s m args below meth c H locs cells slots Qf (F0 m pc' ls' (r.toList.map (conc sa ad))))) (hI : ins y pc = (8, u0, a, f, nx)) (hk : ∀ (pc' : Nat) (ls' : Ls) (st' : List PV) (w' : Wd), kk pc' ls' st' w' → GG y p l e R s m args below meth c cells slots Qf D cI cZ cQ sa ad ks A pc' ls' st' w') : GG y p l e R s m args below meth c cells slots Qf D cI cZ cQ sa ad ks A pc ls st w := by
  split at h
  · split at h
    · rename_i hkc
      split at h
      · rename_i hs0
        exact so_8i hF hC hI hkc hs0 (hk _ _ _ _ h)
      · rename_i hs0
        split at h
        · rename_i hbb
          simp only [Bool.and_eq_true, beq_iff_eq] at hbb
          obtain ⟨rfl, hb2⟩ := hbb
          obtain rfl := nbeq hb2
          exact so_8r hF hC hI hkc hs0 (hk _ _ _ _ h)
        · exact h.elim
      · exact h.elim
    · exact h.elim
  · exact h.elim
theorem st_9 {u0 : Int32} {u1 u2 nx : Nat} {kk : Nat → Ls → List PV → Wd → Prop} (h : (match st with
    | .inl y :: .inl x :: t => kk nx ls (vI (x + y) :: t) w
    | _ => False)) (hF : Fr y d p R s m args c cells slots) (hC : Cx D cI cZ cQ sa sv A s) (hX : Sx scr sa A s) (hA : ∀ q, s.heap.size ≤ q → A q) (hfin : (∀ (pc' : Nat) (w' : Wd) (r : Option PV) (H : Heap) (locs : List Loc) (ls' : Array Slot), Wx s D cI cZ cQ sa ad ks A w' H locs → (∀ v, r = some v → vok ks v) → rtk y pc' r → Q w' r → W p l e R s m args below meth c H locs cells slots Qf (F0 m pc' ls' (r.toList.map (conc sa ad))))) (hI : ins y pc = (9, u0, u1, u2, nx)) (hk : ∀ (pc' : Nat) (ls' : Ls) (st' : List PV) (w' : Wd), kk pc' ls' st' w' → GG y p l e R s m args below meth c cells slots Qf D cI cZ cQ sa ad ks A pc' ls' st' w') : GG y p l e R s m args below meth c cells slots Qf D cI cZ cQ sa ad ks A pc ls st w := by
  split at h
  · exact so_9 hF hI (hk _ _ _ _ h)
  · exact h.elim
theorem st_10 {u0 : Int32} {a b nx : Nat} {kk : Nat → Ls → List PV → Wd → Prop} (h : (match st with
    | v :: t => (match tyck b v && (lck ls a && Nat.blt b 2) with
      | true => kk nx (ls.set a (some v)) t w
      | false => False)
    | _ => False)) (hF : Fr y d p R s m args c cells slots) (hC : Cx D cI cZ cQ sa sv A s) (hX : Sx scr sa A s) (hA : ∀ q, s.heap.size ≤ q → A q) (hfin : (∀ (pc' : Nat) (w' : Wd) (r : Option PV) (H : Heap) (locs : List Loc) (ls' : Array Slot), Wx s D cI cZ cQ sa ad ks A w' H locs → (∀ v, r = some v → vok ks v) → rtk y pc' r → Q w' r → W p l e R s m args below meth c H locs cells slots Qf (F0 m pc' ls' (r.toList.map (conc sa ad))))) (hI : ins y pc = (10, u0, a, b, nx)) (hk : ∀ (pc' : Nat) (ls' : Ls) (st' : List PV) (w' : Wd), kk pc' ls' st' w' → GG y p l e R s m args below meth c cells slots Qf D cI cZ cQ sa ad ks A pc' ls' st' w') : GG y p l e R s m args below meth c cells slots Qf D cI cZ cQ sa ad ks A pc ls st w := by
  split at h
  · split at h
    · rename_i hb
      simp only [Bool.and_eq_true] at hb
      exact so_10 hF hI hb.1 hb.2.1 (hk _ _ _ _ h)
    · exact h.elim
  · exact h.elim
theorem st_11 {u0 : Int32} {a u2 nx : Nat} {kk : Nat → Ls → List PV → Wd → Prop} (h : (match st with
    | .inl x :: t => Br (x = 0) (kk nx ls t w) (kk a ls t w)
    | _ => False)) (hF : Fr y d p R s m args c cells slots) (hC : Cx D cI cZ cQ sa sv A s) (hX : Sx scr sa A s) (hA : ∀ q, s.heap.size ≤ q → A q) (hfin : (∀ (pc' : Nat) (w' : Wd) (r : Option PV) (H : Heap) (locs : List Loc) (ls' : Array Slot), Wx s D cI cZ cQ sa ad ks A w' H locs → (∀ v, r = some v → vok ks v) → rtk y pc' r → Q w' r → W p l e R s m args below meth c H locs cells slots Qf (F0 m pc' ls' (r.toList.map (conc sa ad))))) (hI : ins y pc = (11, u0, a, u2, nx)) (hk : ∀ (pc' : Nat) (ls' : Ls) (st' : List PV) (w' : Wd), kk pc' ls' st' w' → GG y p l e R s m args below meth c cells slots Qf D cI cZ cQ sa ad ks A pc' ls' st' w') : GG y p l e R s m args below meth c cells slots Qf D cI cZ cQ sa ad ks A pc ls st w := by
  split at h
  · exact so_11 hF hI (fun z => hk _ _ _ _ (h.1 z)) (fun z => hk _ _ _ _ (h.2 z))
  · exact h.elim
theorem st_12 {u0 : Int32} {a u2 nx : Nat} {kk : Nat → Ls → List PV → Wd → Prop} (h : (match st with
    | .inl y :: .inl x :: t => Br (y ≤ x) (kk a ls t w) (kk nx ls t w)
    | _ => False)) (hF : Fr y d p R s m args c cells slots) (hC : Cx D cI cZ cQ sa sv A s) (hX : Sx scr sa A s) (hA : ∀ q, s.heap.size ≤ q → A q) (hfin : (∀ (pc' : Nat) (w' : Wd) (r : Option PV) (H : Heap) (locs : List Loc) (ls' : Array Slot), Wx s D cI cZ cQ sa ad ks A w' H locs → (∀ v, r = some v → vok ks v) → rtk y pc' r → Q w' r → W p l e R s m args below meth c H locs cells slots Qf (F0 m pc' ls' (r.toList.map (conc sa ad))))) (hI : ins y pc = (12, u0, a, u2, nx)) (hk : ∀ (pc' : Nat) (ls' : Ls) (st' : List PV) (w' : Wd), kk pc' ls' st' w' → GG y p l e R s m args below meth c cells slots Qf D cI cZ cQ sa ad ks A pc' ls' st' w') : GG y p l e R s m args below meth c cells slots Qf D cI cZ cQ sa ad ks A pc ls st w := by
  split at h
  · exact so_12 hF hI (fun z => hk _ _ _ _ (h.1 z)) (fun z => hk _ _ _ _ (h.2 z))
  · exact h.elim
theorem st_13 {v : Int32} {a u2 nx : Nat} {kk : Nat → Ls → List PV → Wd → Prop} (h : (match ls[a]? with
    | some (some (.inl x)) => (match lck ls a with
      | true => kk nx (ls.set a (some (vI (x + v)))) st w
      | false => False)
    | _ => False)) (hF : Fr y d p R s m args c cells slots) (hC : Cx D cI cZ cQ sa sv A s) (hX : Sx scr sa A s) (hA : ∀ q, s.heap.size ≤ q → A q) (hfin : (∀ (pc' : Nat) (w' : Wd) (r : Option PV) (H : Heap) (locs : List Loc) (ls' : Array Slot), Wx s D cI cZ cQ sa ad ks A w' H locs → (∀ v, r = some v → vok ks v) → rtk y pc' r → Q w' r → W p l e R s m args below meth c H locs cells slots Qf (F0 m pc' ls' (r.toList.map (conc sa ad))))) (hI : ins y pc = (13, v, a, u2, nx)) (hk : ∀ (pc' : Nat) (ls' : Ls) (st' : List PV) (w' : Wd), kk pc' ls' st' w' → GG y p l e R s m args below meth c cells slots Qf D cI cZ cQ sa ad ks A pc' ls' st' w') : GG y p l e R s m args below meth c cells slots Qf D cI cZ cQ sa ad ks A pc ls st w := by
  split at h
  · rename_i hl
    split at h
    · rename_i hkk
      exact so_13 hF hI hl hkk (hk _ _ _ _ h)
    · exact h.elim
  · exact h.elim
theorem st_14 {u0 : Int32} {a u2 nx : Nat} {kk : Nat → Ls → List PV → Wd → Prop} (h : (match st with
    | .inl y :: .inl x :: t => Br (x = y) (kk nx ls t w) (kk a ls t w)
    | _ => False)) (hF : Fr y d p R s m args c cells slots) (hC : Cx D cI cZ cQ sa sv A s) (hX : Sx scr sa A s) (hA : ∀ q, s.heap.size ≤ q → A q) (hfin : (∀ (pc' : Nat) (w' : Wd) (r : Option PV) (H : Heap) (locs : List Loc) (ls' : Array Slot), Wx s D cI cZ cQ sa ad ks A w' H locs → (∀ v, r = some v → vok ks v) → rtk y pc' r → Q w' r → W p l e R s m args below meth c H locs cells slots Qf (F0 m pc' ls' (r.toList.map (conc sa ad))))) (hI : ins y pc = (14, u0, a, u2, nx)) (hk : ∀ (pc' : Nat) (ls' : Ls) (st' : List PV) (w' : Wd), kk pc' ls' st' w' → GG y p l e R s m args below meth c cells slots Qf D cI cZ cQ sa ad ks A pc' ls' st' w') : GG y p l e R s m args below meth c cells slots Qf D cI cZ cQ sa ad ks A pc ls st w := by
  split at h
  · exact so_14 hF hI (fun z => hk _ _ _ _ (h.1 z)) (fun z => hk _ _ _ _ (h.2 z))
  · exact h.elim
theorem st_15 {u0 : Int32} {a u2 nx : Nat} {kk : Nat → Ls → List PV → Wd → Prop} (h : (match st with
    | .inl y :: .inl x :: t => Br (x = y) (kk a ls t w) (kk nx ls t w)
    | _ => False)) (hF : Fr y d p R s m args c cells slots) (hC : Cx D cI cZ cQ sa sv A s) (hX : Sx scr sa A s) (hA : ∀ q, s.heap.size ≤ q → A q) (hfin : (∀ (pc' : Nat) (w' : Wd) (r : Option PV) (H : Heap) (locs : List Loc) (ls' : Array Slot), Wx s D cI cZ cQ sa ad ks A w' H locs → (∀ v, r = some v → vok ks v) → rtk y pc' r → Q w' r → W p l e R s m args below meth c H locs cells slots Qf (F0 m pc' ls' (r.toList.map (conc sa ad))))) (hI : ins y pc = (15, u0, a, u2, nx)) (hk : ∀ (pc' : Nat) (ls' : Ls) (st' : List PV) (w' : Wd), kk pc' ls' st' w' → GG y p l e R s m args below meth c cells slots Qf D cI cZ cQ sa ad ks A pc' ls' st' w') : GG y p l e R s m args below meth c cells slots Qf D cI cZ cQ sa ad ks A pc ls st w := by
  split at h
  · exact so_15 hF hI (fun z => hk _ _ _ _ (h.1 z)) (fun z => hk _ _ _ _ (h.2 z))
  · exact h.elim
theorem st_16 {u0 : Int32} {u1 u2 nx : Nat} {kk : Nat → Ls → List PV → Wd → Prop} (h : (match st with
    | .inl v :: .inl x :: .inr (.inr (.inl (b, k, i))) :: t => (match ki b k with
      | (1, n) => Bd x n (kk nx ls t (sA w b k i x.toNatClampNeg v))
      | _ => False)
    | _ => False)) (hF : Fr y d p R s m args c cells slots) (hC : Cx D cI cZ cQ sa sv A s) (hX : Sx scr sa A s) (hA : ∀ q, s.heap.size ≤ q → A q) (hfin : (∀ (pc' : Nat) (w' : Wd) (r : Option PV) (H : Heap) (locs : List Loc) (ls' : Array Slot), Wx s D cI cZ cQ sa ad ks A w' H locs → (∀ v, r = some v → vok ks v) → rtk y pc' r → Q w' r → W p l e R s m args below meth c H locs cells slots Qf (F0 m pc' ls' (r.toList.map (conc sa ad))))) (hI : ins y pc = (16, u0, u1, u2, nx)) (hk : ∀ (pc' : Nat) (ls' : Ls) (st' : List PV) (w' : Wd), kk pc' ls' st' w' → GG y p l e R s m args below meth c cells slots Qf D cI cZ cQ sa ad ks A pc' ls' st' w') : GG y p l e R s m args below meth c cells slots Qf D cI cZ cQ sa ad ks A pc ls st w := by
  split at h
  · split at h
    · rename_i n hn
      exact so_16 hF hC hI hn h.1 (hk _ _ _ _ h.2)
    · exact h.elim
  · exact h.elim
theorem st_17 {u0 : Int32} {u1 u2 nx : Nat} {kk : Nat → Ls → List PV → Wd → Prop} (h : (match st with
    | .inl y :: .inl x :: t => kk nx ls (vI (x - y) :: t) w
    | _ => False)) (hF : Fr y d p R s m args c cells slots) (hC : Cx D cI cZ cQ sa sv A s) (hX : Sx scr sa A s) (hA : ∀ q, s.heap.size ≤ q → A q) (hfin : (∀ (pc' : Nat) (w' : Wd) (r : Option PV) (H : Heap) (locs : List Loc) (ls' : Array Slot), Wx s D cI cZ cQ sa ad ks A w' H locs → (∀ v, r = some v → vok ks v) → rtk y pc' r → Q w' r → W p l e R s m args below meth c H locs cells slots Qf (F0 m pc' ls' (r.toList.map (conc sa ad))))) (hI : ins y pc = (17, u0, u1, u2, nx)) (hk : ∀ (pc' : Nat) (ls' : Ls) (st' : List PV) (w' : Wd), kk pc' ls' st' w' → GG y p l e R s m args below meth c cells slots Qf D cI cZ cQ sa ad ks A pc' ls' st' w') : GG y p l e R s m args below meth c cells slots Qf D cI cZ cQ sa ad ks A pc ls st w := by
  split at h
  · exact so_17 hF hI (hk _ _ _ _ h)
  · exact h.elim
theorem st_18 {u0 : Int32} {u1 u2 nx : Nat} {kk : Nat → Ls → List PV → Wd → Prop} (h : (match st with
    | .inl y :: .inl x :: t => kk nx ls (vI (x * y) :: t) w
    | _ => False)) (hF : Fr y d p R s m args c cells slots) (hC : Cx D cI cZ cQ sa sv A s) (hX : Sx scr sa A s) (hA : ∀ q, s.heap.size ≤ q → A q) (hfin : (∀ (pc' : Nat) (w' : Wd) (r : Option PV) (H : Heap) (locs : List Loc) (ls' : Array Slot), Wx s D cI cZ cQ sa ad ks A w' H locs → (∀ v, r = some v → vok ks v) → rtk y pc' r → Q w' r → W p l e R s m args below meth c H locs cells slots Qf (F0 m pc' ls' (r.toList.map (conc sa ad))))) (hI : ins y pc = (18, u0, u1, u2, nx)) (hk : ∀ (pc' : Nat) (ls' : Ls) (st' : List PV) (w' : Wd), kk pc' ls' st' w' → GG y p l e R s m args below meth c cells slots Qf D cI cZ cQ sa ad ks A pc' ls' st' w') : GG y p l e R s m args below meth c cells slots Qf D cI cZ cQ sa ad ks A pc ls st w := by
  split at h
  · exact so_18 hF hI (hk _ _ _ _ h)
  · exact h.elim
theorem st_19 {u0 : Int32} {u1 u2 u3 : Nat} {kk : Nat → Ls → List PV → Wd → Prop} (h : (match st with
    | [] => Q w none
    | _ => False)) (hF : Fr y d p R s m args c cells slots) (hC : Cx D cI cZ cQ sa sv A s) (hX : Sx scr sa A s) (hA : ∀ q, s.heap.size ≤ q → A q) (hfin : (∀ (pc' : Nat) (w' : Wd) (r : Option PV) (H : Heap) (locs : List Loc) (ls' : Array Slot), Wx s D cI cZ cQ sa ad ks A w' H locs → (∀ v, r = some v → vok ks v) → rtk y pc' r → Q w' r → W p l e R s m args below meth c H locs cells slots Qf (F0 m pc' ls' (r.toList.map (conc sa ad))))) (hI : ins y pc = (19, u0, u1, u2, u3)) (hk : ∀ (pc' : Nat) (ls' : Ls) (st' : List PV) (w' : Wd), kk pc' ls' st' w' → GG y p l e R s m args below meth c cells slots Qf D cI cZ cQ sa ad ks A pc' ls' st' w') : GG y p l e R s m args below meth c cells slots Qf D cI cZ cQ sa ad ks A pc ls st w := by
  split at h
  · exact so_19 hfin hI h
  · exact h.elim
theorem st_20 {u0 : Int32} {u1 u2 nx : Nat} {kk : Nat → Ls → List PV → Wd → Prop} (h : (match st with
    | v :: t => (match v with
      | .inr (.inl _) => False
      | _ => kk nx ls (v :: v :: t) w)
    | _ => False)) (hF : Fr y d p R s m args c cells slots) (hC : Cx D cI cZ cQ sa sv A s) (hX : Sx scr sa A s) (hA : ∀ q, s.heap.size ≤ q → A q) (hfin : (∀ (pc' : Nat) (w' : Wd) (r : Option PV) (H : Heap) (locs : List Loc) (ls' : Array Slot), Wx s D cI cZ cQ sa ad ks A w' H locs → (∀ v, r = some v → vok ks v) → rtk y pc' r → Q w' r → W p l e R s m args below meth c H locs cells slots Qf (F0 m pc' ls' (r.toList.map (conc sa ad))))) (hI : ins y pc = (20, u0, u1, u2, nx)) (hk : ∀ (pc' : Nat) (ls' : Ls) (st' : List PV) (w' : Wd), kk pc' ls' st' w' → GG y p l e R s m args below meth c cells slots Qf D cI cZ cQ sa ad ks A pc' ls' st' w') : GG y p l e R s m args below meth c cells slots Qf D cI cZ cQ sa ad ks A pc ls st w := by
  split at h
  · split at h
    · exact h.elim
    · rename_i hne
      exact so_20 hF hI (fun z => by obtain ⟨x, hx⟩ := z; exact hne x hx) (hk _ _ _ _ h)
  · exact h.elim
theorem st_21 {u0 : Int32} {u1 u2 nx : Nat} {kk : Nat → Ls → List PV → Wd → Prop} (h : (match st with
    | .inl x :: t => kk nx ls (vL x.toInt64 :: t) w
    | _ => False)) (hF : Fr y d p R s m args c cells slots) (hC : Cx D cI cZ cQ sa sv A s) (hX : Sx scr sa A s) (hA : ∀ q, s.heap.size ≤ q → A q) (hfin : (∀ (pc' : Nat) (w' : Wd) (r : Option PV) (H : Heap) (locs : List Loc) (ls' : Array Slot), Wx s D cI cZ cQ sa ad ks A w' H locs → (∀ v, r = some v → vok ks v) → rtk y pc' r → Q w' r → W p l e R s m args below meth c H locs cells slots Qf (F0 m pc' ls' (r.toList.map (conc sa ad))))) (hI : ins y pc = (21, u0, u1, u2, nx)) (hk : ∀ (pc' : Nat) (ls' : Ls) (st' : List PV) (w' : Wd), kk pc' ls' st' w' → GG y p l e R s m args below meth c cells slots Qf D cI cZ cQ sa ad ks A pc' ls' st' w') : GG y p l e R s m args below meth c cells slots Qf D cI cZ cQ sa ad ks A pc ls st w := by
  split at h
  · exact so_21 hF hI (hk _ _ _ _ h)
  · exact h.elim
theorem st_22 {u0 : Int32} {a u2 nx : Nat} {kk : Nat → Ls → List PV → Wd → Prop} (h : (match st with
    | .inl y :: .inl x :: t => Br (x < y) (kk a ls t w) (kk nx ls t w)
    | _ => False)) (hF : Fr y d p R s m args c cells slots) (hC : Cx D cI cZ cQ sa sv A s) (hX : Sx scr sa A s) (hA : ∀ q, s.heap.size ≤ q → A q) (hfin : (∀ (pc' : Nat) (w' : Wd) (r : Option PV) (H : Heap) (locs : List Loc) (ls' : Array Slot), Wx s D cI cZ cQ sa ad ks A w' H locs → (∀ v, r = some v → vok ks v) → rtk y pc' r → Q w' r → W p l e R s m args below meth c H locs cells slots Qf (F0 m pc' ls' (r.toList.map (conc sa ad))))) (hI : ins y pc = (22, u0, a, u2, nx)) (hk : ∀ (pc' : Nat) (ls' : Ls) (st' : List PV) (w' : Wd), kk pc' ls' st' w' → GG y p l e R s m args below meth c cells slots Qf D cI cZ cQ sa ad ks A pc' ls' st' w') : GG y p l e R s m args below meth c cells slots Qf D cI cZ cQ sa ad ks A pc ls st w := by
  split at h
  · exact so_22 hF hI (fun z => hk _ _ _ _ (h.1 z)) (fun z => hk _ _ _ _ (h.2 z))
  · exact h.elim
theorem st_23 {u0 : Int32} {u1 u2 nx : Nat} {kk : Nat → Ls → List PV → Wd → Prop} (h : (match st with
    | .inl y :: .inl x :: t => kk nx ls (vI (x <<< (y &&& 31)) :: t) w
    | _ => False)) (hF : Fr y d p R s m args c cells slots) (hC : Cx D cI cZ cQ sa sv A s) (hX : Sx scr sa A s) (hA : ∀ q, s.heap.size ≤ q → A q) (hfin : (∀ (pc' : Nat) (w' : Wd) (r : Option PV) (H : Heap) (locs : List Loc) (ls' : Array Slot), Wx s D cI cZ cQ sa ad ks A w' H locs → (∀ v, r = some v → vok ks v) → rtk y pc' r → Q w' r → W p l e R s m args below meth c H locs cells slots Qf (F0 m pc' ls' (r.toList.map (conc sa ad))))) (hI : ins y pc = (23, u0, u1, u2, nx)) (hk : ∀ (pc' : Nat) (ls' : Ls) (st' : List PV) (w' : Wd), kk pc' ls' st' w' → GG y p l e R s m args below meth c cells slots Qf D cI cZ cQ sa ad ks A pc' ls' st' w') : GG y p l e R s m args below meth c cells slots Qf D cI cZ cQ sa ad ks A pc ls st w := by
  split at h
  · exact so_23 hF hI (hk _ _ _ _ h)
  · exact h.elim
theorem st_24 {v : Int32} {a u2 nx : Nat} {kk : Nat → Ls → List PV → Wd → Prop} (h : kk nx ls (vL (lcv v a) :: st) w) (hF : Fr y d p R s m args c cells slots) (hC : Cx D cI cZ cQ sa sv A s) (hX : Sx scr sa A s) (hA : ∀ q, s.heap.size ≤ q → A q) (hfin : (∀ (pc' : Nat) (w' : Wd) (r : Option PV) (H : Heap) (locs : List Loc) (ls' : Array Slot), Wx s D cI cZ cQ sa ad ks A w' H locs → (∀ v, r = some v → vok ks v) → rtk y pc' r → Q w' r → W p l e R s m args below meth c H locs cells slots Qf (F0 m pc' ls' (r.toList.map (conc sa ad))))) (hI : ins y pc = (24, v, a, u2, nx)) (hk : ∀ (pc' : Nat) (ls' : Ls) (st' : List PV) (w' : Wd), kk pc' ls' st' w' → GG y p l e R s m args below meth c cells slots Qf D cI cZ cQ sa ad ks A pc' ls' st' w') : GG y p l e R s m args below meth c cells slots Qf D cI cZ cQ sa ad ks A pc ls st w := by
  exact so_24 hF hI (hk _ _ _ _ h)
theorem st_25 {u0 : Int32} {u1 u2 nx : Nat} {kk : Nat → Ls → List PV → Wd → Prop} (h : (match st with
    | .inl y :: .inl x :: t => kk nx ls (vI (x &&& y) :: t) w
    | _ => False)) (hF : Fr y d p R s m args c cells slots) (hC : Cx D cI cZ cQ sa sv A s) (hX : Sx scr sa A s) (hA : ∀ q, s.heap.size ≤ q → A q) (hfin : (∀ (pc' : Nat) (w' : Wd) (r : Option PV) (H : Heap) (locs : List Loc) (ls' : Array Slot), Wx s D cI cZ cQ sa ad ks A w' H locs → (∀ v, r = some v → vok ks v) → rtk y pc' r → Q w' r → W p l e R s m args below meth c H locs cells slots Qf (F0 m pc' ls' (r.toList.map (conc sa ad))))) (hI : ins y pc = (25, u0, u1, u2, nx)) (hk : ∀ (pc' : Nat) (ls' : Ls) (st' : List PV) (w' : Wd), kk pc' ls' st' w' → GG y p l e R s m args below meth c cells slots Qf D cI cZ cQ sa ad ks A pc' ls' st' w') : GG y p l e R s m args below meth c cells slots Qf D cI cZ cQ sa ad ks A pc ls st w := by
  split at h
  · exact so_25 hF hI (hk _ _ _ _ h)
  · exact h.elim
theorem st_26 {u0 : Int32} {a u2 nx : Nat} {kk : Nat → Ls → List PV → Wd → Prop} (h : kk nx ls (vS a :: st) w) (hF : Fr y d p R s m args c cells slots) (hC : Cx D cI cZ cQ sa sv A s) (hX : Sx scr sa A s) (hA : ∀ q, s.heap.size ≤ q → A q) (hfin : (∀ (pc' : Nat) (w' : Wd) (r : Option PV) (H : Heap) (locs : List Loc) (ls' : Array Slot), Wx s D cI cZ cQ sa ad ks A w' H locs → (∀ v, r = some v → vok ks v) → rtk y pc' r → Q w' r → W p l e R s m args below meth c H locs cells slots Qf (F0 m pc' ls' (r.toList.map (conc sa ad))))) (hI : ins y pc = (26, u0, a, u2, nx)) (hk : ∀ (pc' : Nat) (ls' : Ls) (st' : List PV) (w' : Wd), kk pc' ls' st' w' → GG y p l e R s m args below meth c cells slots Qf D cI cZ cQ sa ad ks A pc' ls' st' w') : GG y p l e R s m args below meth c cells slots Qf D cI cZ cQ sa ad ks A pc ls st w := by
  exact so_26 hF hC hI (hk _ _ _ _ h)
theorem st_27 {u0 : Int32} {a u2 nx : Nat} {kk : Nat → Ls → List PV → Wd → Prop} (h : (match st with
    | .inl y :: .inl x :: t => Br (y < x) (kk a ls t w) (kk nx ls t w)
    | _ => False)) (hF : Fr y d p R s m args c cells slots) (hC : Cx D cI cZ cQ sa sv A s) (hX : Sx scr sa A s) (hA : ∀ q, s.heap.size ≤ q → A q) (hfin : (∀ (pc' : Nat) (w' : Wd) (r : Option PV) (H : Heap) (locs : List Loc) (ls' : Array Slot), Wx s D cI cZ cQ sa ad ks A w' H locs → (∀ v, r = some v → vok ks v) → rtk y pc' r → Q w' r → W p l e R s m args below meth c H locs cells slots Qf (F0 m pc' ls' (r.toList.map (conc sa ad))))) (hI : ins y pc = (27, u0, a, u2, nx)) (hk : ∀ (pc' : Nat) (ls' : Ls) (st' : List PV) (w' : Wd), kk pc' ls' st' w' → GG y p l e R s m args below meth c cells slots Qf D cI cZ cQ sa ad ks A pc' ls' st' w') : GG y p l e R s m args below meth c cells slots Qf D cI cZ cQ sa ad ks A pc ls st w := by
  split at h
  · exact so_27 hF hI (fun z => hk _ _ _ _ (h.1 z)) (fun z => hk _ _ _ _ (h.2 z))
  · exact h.elim
theorem st_28 {u0 : Int32} {u1 u2 nx : Nat} {kk : Nat → Ls → List PV → Wd → Prop} (h : (match st with
    | .inl x :: .inr (.inr (.inl (b, k, _))) :: t => (match ki b k with
      | (3, n) => Bd x n (kk nx ls (vR false 9 x.toNatClampNeg :: t) w)
      | _ => False)
    | _ => False)) (hF : Fr y d p R s m args c cells slots) (hC : Cx D cI cZ cQ sa sv A s) (hX : Sx scr sa A s) (hA : ∀ q, s.heap.size ≤ q → A q) (hfin : (∀ (pc' : Nat) (w' : Wd) (r : Option PV) (H : Heap) (locs : List Loc) (ls' : Array Slot), Wx s D cI cZ cQ sa ad ks A w' H locs → (∀ v, r = some v → vok ks v) → rtk y pc' r → Q w' r → W p l e R s m args below meth c H locs cells slots Qf (F0 m pc' ls' (r.toList.map (conc sa ad))))) (hI : ins y pc = (28, u0, u1, u2, nx)) (hk : ∀ (pc' : Nat) (ls' : Ls) (st' : List PV) (w' : Wd), kk pc' ls' st' w' → GG y p l e R s m args below meth c cells slots Qf D cI cZ cQ sa ad ks A pc' ls' st' w') : GG y p l e R s m args below meth c cells slots Qf D cI cZ cQ sa ad ks A pc ls st w := by
  split at h
  · split at h
    · rename_i n hn
      exact so_28 hF hC hI hn h.1 (hk _ _ _ _ h.2)
    · exact h.elim
  · exact h.elim
theorem st_29 {u0 : Int32} {a u2 nx : Nat} {kk : Nat → Ls → List PV → Wd → Prop} (h : (match st with
    | .inl y :: .inl x :: t => Br (x ≤ y) (kk a ls t w) (kk nx ls t w)
    | _ => False)) (hF : Fr y d p R s m args c cells slots) (hC : Cx D cI cZ cQ sa sv A s) (hX : Sx scr sa A s) (hA : ∀ q, s.heap.size ≤ q → A q) (hfin : (∀ (pc' : Nat) (w' : Wd) (r : Option PV) (H : Heap) (locs : List Loc) (ls' : Array Slot), Wx s D cI cZ cQ sa ad ks A w' H locs → (∀ v, r = some v → vok ks v) → rtk y pc' r → Q w' r → W p l e R s m args below meth c H locs cells slots Qf (F0 m pc' ls' (r.toList.map (conc sa ad))))) (hI : ins y pc = (29, u0, a, u2, nx)) (hk : ∀ (pc' : Nat) (ls' : Ls) (st' : List PV) (w' : Wd), kk pc' ls' st' w' → GG y p l e R s m args below meth c cells slots Qf D cI cZ cQ sa ad ks A pc' ls' st' w') : GG y p l e R s m args below meth c cells slots Qf D cI cZ cQ sa ad ks A pc ls st w := by
  split at h
  · exact so_29 hF hI (fun z => hk _ _ _ _ (h.1 z)) (fun z => hk _ _ _ _ (h.2 z))
  · exact h.elim
theorem st_30 {u0 : Int32} {u1 u2 nx : Nat} {kk : Nat → Ls → List PV → Wd → Prop} (h : (match st with
    | .inl y :: .inl x :: t => kk nx ls (vI (x >>> (y &&& 31)) :: t) w
    | _ => False)) (hF : Fr y d p R s m args c cells slots) (hC : Cx D cI cZ cQ sa sv A s) (hX : Sx scr sa A s) (hA : ∀ q, s.heap.size ≤ q → A q) (hfin : (∀ (pc' : Nat) (w' : Wd) (r : Option PV) (H : Heap) (locs : List Loc) (ls' : Array Slot), Wx s D cI cZ cQ sa ad ks A w' H locs → (∀ v, r = some v → vok ks v) → rtk y pc' r → Q w' r → W p l e R s m args below meth c H locs cells slots Qf (F0 m pc' ls' (r.toList.map (conc sa ad))))) (hI : ins y pc = (30, u0, u1, u2, nx)) (hk : ∀ (pc' : Nat) (ls' : Ls) (st' : List PV) (w' : Wd), kk pc' ls' st' w' → GG y p l e R s m args below meth c cells slots Qf D cI cZ cQ sa ad ks A pc' ls' st' w') : GG y p l e R s m args below meth c cells slots Qf D cI cZ cQ sa ad ks A pc ls st w := by
  split at h
  · exact so_30 hF hI (hk _ _ _ _ h)
  · exact h.elim
theorem st_31 {u0 : Int32} {a u2 nx : Nat} {kk : Nat → Ls → List PV → Wd → Prop} (h : (match st with
    | .inl x :: t => Br (x ≤ 0) (kk a ls t w) (kk nx ls t w)
    | _ => False)) (hF : Fr y d p R s m args c cells slots) (hC : Cx D cI cZ cQ sa sv A s) (hX : Sx scr sa A s) (hA : ∀ q, s.heap.size ≤ q → A q) (hfin : (∀ (pc' : Nat) (w' : Wd) (r : Option PV) (H : Heap) (locs : List Loc) (ls' : Array Slot), Wx s D cI cZ cQ sa ad ks A w' H locs → (∀ v, r = some v → vok ks v) → rtk y pc' r → Q w' r → W p l e R s m args below meth c H locs cells slots Qf (F0 m pc' ls' (r.toList.map (conc sa ad))))) (hI : ins y pc = (31, u0, a, u2, nx)) (hk : ∀ (pc' : Nat) (ls' : Ls) (st' : List PV) (w' : Wd), kk pc' ls' st' w' → GG y p l e R s m args below meth c cells slots Qf D cI cZ cQ sa ad ks A pc' ls' st' w') : GG y p l e R s m args below meth c cells slots Qf D cI cZ cQ sa ad ks A pc ls st w := by
  split at h
  · exact so_31 hF hI (fun z => hk _ _ _ _ (h.1 z)) (fun z => hk _ _ _ _ (h.2 z))
  · exact h.elim
theorem st_32 {u0 : Int32} {a u2 nx : Nat} {kk : Nat → Ls → List PV → Wd → Prop} (h : (match st with
    | .inl x :: t => Br (0 ≤ x) (kk a ls t w) (kk nx ls t w)
    | _ => False)) (hF : Fr y d p R s m args c cells slots) (hC : Cx D cI cZ cQ sa sv A s) (hX : Sx scr sa A s) (hA : ∀ q, s.heap.size ≤ q → A q) (hfin : (∀ (pc' : Nat) (w' : Wd) (r : Option PV) (H : Heap) (locs : List Loc) (ls' : Array Slot), Wx s D cI cZ cQ sa ad ks A w' H locs → (∀ v, r = some v → vok ks v) → rtk y pc' r → Q w' r → W p l e R s m args below meth c H locs cells slots Qf (F0 m pc' ls' (r.toList.map (conc sa ad))))) (hI : ins y pc = (32, u0, a, u2, nx)) (hk : ∀ (pc' : Nat) (ls' : Ls) (st' : List PV) (w' : Wd), kk pc' ls' st' w' → GG y p l e R s m args below meth c cells slots Qf D cI cZ cQ sa ad ks A pc' ls' st' w') : GG y p l e R s m args below meth c cells slots Qf D cI cZ cQ sa ad ks A pc ls st w := by
  split at h
  · exact so_32 hF hI (fun z => hk _ _ _ _ (h.1 z)) (fun z => hk _ _ _ _ (h.2 z))
  · exact h.elim
theorem st_33 {u0 : Int32} {u1 u2 nx : Nat} {kk : Nat → Ls → List PV → Wd → Prop} (h : (match st with
    | .inl y :: .inl x :: t => kk nx ls (vI (x ||| y) :: t) w
    | _ => False)) (hF : Fr y d p R s m args c cells slots) (hC : Cx D cI cZ cQ sa sv A s) (hX : Sx scr sa A s) (hA : ∀ q, s.heap.size ≤ q → A q) (hfin : (∀ (pc' : Nat) (w' : Wd) (r : Option PV) (H : Heap) (locs : List Loc) (ls' : Array Slot), Wx s D cI cZ cQ sa ad ks A w' H locs → (∀ v, r = some v → vok ks v) → rtk y pc' r → Q w' r → W p l e R s m args below meth c H locs cells slots Qf (F0 m pc' ls' (r.toList.map (conc sa ad))))) (hI : ins y pc = (33, u0, u1, u2, nx)) (hk : ∀ (pc' : Nat) (ls' : Ls) (st' : List PV) (w' : Wd), kk pc' ls' st' w' → GG y p l e R s m args below meth c cells slots Qf D cI cZ cQ sa ad ks A pc' ls' st' w') : GG y p l e R s m args below meth c cells slots Qf D cI cZ cQ sa ad ks A pc ls st w := by
  split at h
  · exact so_33 hF hI (hk _ _ _ _ h)
  · exact h.elim
theorem st_34 {u0 : Int32} {u1 u2 nx : Nat} {kk : Nat → Ls → List PV → Wd → Prop} (h : (match st with
    | .inl v :: .inl x :: .inr (.inr (.inl (b, k, i))) :: t => (match ki b k with
      | (2, n) => Bd x n (kk nx ls t (sA w b k i x.toNatClampNeg (vp_nar .boolean v)))
      | _ => False)
    | _ => False)) (hF : Fr y d p R s m args c cells slots) (hC : Cx D cI cZ cQ sa sv A s) (hX : Sx scr sa A s) (hA : ∀ q, s.heap.size ≤ q → A q) (hfin : (∀ (pc' : Nat) (w' : Wd) (r : Option PV) (H : Heap) (locs : List Loc) (ls' : Array Slot), Wx s D cI cZ cQ sa ad ks A w' H locs → (∀ v, r = some v → vok ks v) → rtk y pc' r → Q w' r → W p l e R s m args below meth c H locs cells slots Qf (F0 m pc' ls' (r.toList.map (conc sa ad))))) (hI : ins y pc = (34, u0, u1, u2, nx)) (hk : ∀ (pc' : Nat) (ls' : Ls) (st' : List PV) (w' : Wd), kk pc' ls' st' w' → GG y p l e R s m args below meth c cells slots Qf D cI cZ cQ sa ad ks A pc' ls' st' w') : GG y p l e R s m args below meth c cells slots Qf D cI cZ cQ sa ad ks A pc ls st w := by
  split at h
  · split at h
    · rename_i n hn
      exact so_34 hF hC hI hn h.1 (hk _ _ _ _ h.2)
    · exact h.elim
  · exact h.elim
theorem st_35 {u0 : Int32} {u1 u2 nx : Nat} {kk : Nat → Ls → List PV → Wd → Prop} (h : (match st with
    | .inl x :: .inr (.inr (.inl (b, k, i))) :: t => (match ki b k with
      | (2, n) => Bd x n (kk nx ls (vI (wA w b k i x.toNatClampNeg) :: t) w)
      | _ => False)
    | _ => False)) (hF : Fr y d p R s m args c cells slots) (hC : Cx D cI cZ cQ sa sv A s) (hX : Sx scr sa A s) (hA : ∀ q, s.heap.size ≤ q → A q) (hfin : (∀ (pc' : Nat) (w' : Wd) (r : Option PV) (H : Heap) (locs : List Loc) (ls' : Array Slot), Wx s D cI cZ cQ sa ad ks A w' H locs → (∀ v, r = some v → vok ks v) → rtk y pc' r → Q w' r → W p l e R s m args below meth c H locs cells slots Qf (F0 m pc' ls' (r.toList.map (conc sa ad))))) (hI : ins y pc = (35, u0, u1, u2, nx)) (hk : ∀ (pc' : Nat) (ls' : Ls) (st' : List PV) (w' : Wd), kk pc' ls' st' w' → GG y p l e R s m args below meth c cells slots Qf D cI cZ cQ sa ad ks A pc' ls' st' w') : GG y p l e R s m args below meth c cells slots Qf D cI cZ cQ sa ad ks A pc ls st w := by
  split at h
  · split at h
    · rename_i n hn
      exact so_35 hF hC hI hn h.1 (hk _ _ _ _ h.2)
    · exact h.elim
  · exact h.elim
theorem st_36 {u0 : Int32} {a u2 nx : Nat} {kk : Nat → Ls → List PV → Wd → Prop} (h : (match st with
    | .inl x :: t => Br (x < 0) (kk a ls t w) (kk nx ls t w)
    | _ => False)) (hF : Fr y d p R s m args c cells slots) (hC : Cx D cI cZ cQ sa sv A s) (hX : Sx scr sa A s) (hA : ∀ q, s.heap.size ≤ q → A q) (hfin : (∀ (pc' : Nat) (w' : Wd) (r : Option PV) (H : Heap) (locs : List Loc) (ls' : Array Slot), Wx s D cI cZ cQ sa ad ks A w' H locs → (∀ v, r = some v → vok ks v) → rtk y pc' r → Q w' r → W p l e R s m args below meth c H locs cells slots Qf (F0 m pc' ls' (r.toList.map (conc sa ad))))) (hI : ins y pc = (36, u0, a, u2, nx)) (hk : ∀ (pc' : Nat) (ls' : Ls) (st' : List PV) (w' : Wd), kk pc' ls' st' w' → GG y p l e R s m args below meth c cells slots Qf D cI cZ cQ sa ad ks A pc' ls' st' w') : GG y p l e R s m args below meth c cells slots Qf D cI cZ cQ sa ad ks A pc ls st w := by
  split at h
  · exact so_36 hF hI (fun z => hk _ _ _ _ (h.1 z)) (fun z => hk _ _ _ _ (h.2 z))
  · exact h.elim
theorem st_37 {u0 : Int32} {a b u3 : Nat} {kk : Nat → Ls → List PV → Wd → Prop} (h : (match st with
    | .inl x :: t => (match tsT.getD a (0, []) with
      | (lo, ts) => tswP x (fun q => kk q ls t w) b lo ts)
    | _ => False)) (hF : Fr y d p R s m args c cells slots) (hC : Cx D cI cZ cQ sa sv A s) (hX : Sx scr sa A s) (hA : ∀ q, s.heap.size ≤ q → A q) (hfin : (∀ (pc' : Nat) (w' : Wd) (r : Option PV) (H : Heap) (locs : List Loc) (ls' : Array Slot), Wx s D cI cZ cQ sa ad ks A w' H locs → (∀ v, r = some v → vok ks v) → rtk y pc' r → Q w' r → W p l e R s m args below meth c H locs cells slots Qf (F0 m pc' ls' (r.toList.map (conc sa ad))))) (hI : ins y pc = (37, u0, a, b, u3)) (hk : ∀ (pc' : Nat) (ls' : Ls) (st' : List PV) (w' : Wd), kk pc' ls' st' w' → GG y p l e R s m args below meth c cells slots Qf D cI cZ cQ sa ad ks A pc' ls' st' w') : GG y p l e R s m args below meth c cells slots Qf D cI cZ cQ sa ad ks A pc ls st w := by
  split at h
  · exact so_37 hF hI rfl h (fun q z => hk _ _ _ _ z)
  · exact h.elim
theorem st_38 {u0 : Int32} {u1 u2 nx : Nat} {kk : Nat → Ls → List PV → Wd → Prop} (h : (match st with
    | .inl y :: .inl x :: t => kk nx ls (vI (x ^^^ y) :: t) w
    | _ => False)) (hF : Fr y d p R s m args c cells slots) (hC : Cx D cI cZ cQ sa sv A s) (hX : Sx scr sa A s) (hA : ∀ q, s.heap.size ≤ q → A q) (hfin : (∀ (pc' : Nat) (w' : Wd) (r : Option PV) (H : Heap) (locs : List Loc) (ls' : Array Slot), Wx s D cI cZ cQ sa ad ks A w' H locs → (∀ v, r = some v → vok ks v) → rtk y pc' r → Q w' r → W p l e R s m args below meth c H locs cells slots Qf (F0 m pc' ls' (r.toList.map (conc sa ad))))) (hI : ins y pc = (38, u0, u1, u2, nx)) (hk : ∀ (pc' : Nat) (ls' : Ls) (st' : List PV) (w' : Wd), kk pc' ls' st' w' → GG y p l e R s m args below meth c cells slots Qf D cI cZ cQ sa ad ks A pc' ls' st' w') : GG y p l e R s m args below meth c cells slots Qf D cI cZ cQ sa ad ks A pc ls st w := by
  split at h
  · exact so_38 hF hI (hk _ _ _ _ h)
  · exact h.elim
theorem st_39 {u0 : Int32} {u1 u2 nx : Nat} {kk : Nat → Ls → List PV → Wd → Prop} (h : (match st with
    | v :: u :: t => (match v, u with
      | .inr (.inl _), _ => False
      | _, .inr (.inl _) => False
      | _, _ => kk nx ls (v :: u :: v :: u :: t) w)
    | _ => False)) (hF : Fr y d p R s m args c cells slots) (hC : Cx D cI cZ cQ sa sv A s) (hX : Sx scr sa A s) (hA : ∀ q, s.heap.size ≤ q → A q) (hfin : (∀ (pc' : Nat) (w' : Wd) (r : Option PV) (H : Heap) (locs : List Loc) (ls' : Array Slot), Wx s D cI cZ cQ sa ad ks A w' H locs → (∀ v, r = some v → vok ks v) → rtk y pc' r → Q w' r → W p l e R s m args below meth c H locs cells slots Qf (F0 m pc' ls' (r.toList.map (conc sa ad))))) (hI : ins y pc = (39, u0, u1, u2, nx)) (hk : ∀ (pc' : Nat) (ls' : Ls) (st' : List PV) (w' : Wd), kk pc' ls' st' w' → GG y p l e R s m args below meth c cells slots Qf D cI cZ cQ sa ad ks A pc' ls' st' w') : GG y p l e R s m args below meth c cells slots Qf D cI cZ cQ sa ad ks A pc ls st w := by
  split at h
  · split at h
    · exact h.elim
    · exact h.elim
    · rename_i hne1 hne2
      exact so_39 hF hI (fun z => by obtain ⟨x, hx⟩ := z; exact hne1 x hx) (fun z => by obtain ⟨x, hx⟩ := z; exact hne2 x hx) (hk _ _ _ _ h)
  · exact h.elim
theorem st_40 {u0 : Int32} {u1 u2 nx : Nat} {kk : Nat → Ls → List PV → Wd → Prop} (h : (match st with
    | .inr (.inl y) :: .inr (.inl x) :: t => kk nx ls (vL (x &&& y) :: t) w
    | _ => False)) (hF : Fr y d p R s m args c cells slots) (hC : Cx D cI cZ cQ sa sv A s) (hX : Sx scr sa A s) (hA : ∀ q, s.heap.size ≤ q → A q) (hfin : (∀ (pc' : Nat) (w' : Wd) (r : Option PV) (H : Heap) (locs : List Loc) (ls' : Array Slot), Wx s D cI cZ cQ sa ad ks A w' H locs → (∀ v, r = some v → vok ks v) → rtk y pc' r → Q w' r → W p l e R s m args below meth c H locs cells slots Qf (F0 m pc' ls' (r.toList.map (conc sa ad))))) (hI : ins y pc = (40, u0, u1, u2, nx)) (hk : ∀ (pc' : Nat) (ls' : Ls) (st' : List PV) (w' : Wd), kk pc' ls' st' w' → GG y p l e R s m args below meth c cells slots Qf D cI cZ cQ sa ad ks A pc' ls' st' w') : GG y p l e R s m args below meth c cells slots Qf D cI cZ cQ sa ad ks A pc ls st w := by
  split at h
  · exact so_40 hF hI (hk _ _ _ _ h)
  · exact h.elim
theorem st_41 {u0 : Int32} {u1 u2 nx : Nat} {kk : Nat → Ls → List PV → Wd → Prop} (h : (match st with
    | .inl y :: .inr (.inl x) :: t => kk nx ls (vL (x >>> (y.toInt64 &&& 63)) :: t) w
    | _ => False)) (hF : Fr y d p R s m args c cells slots) (hC : Cx D cI cZ cQ sa sv A s) (hX : Sx scr sa A s) (hA : ∀ q, s.heap.size ≤ q → A q) (hfin : (∀ (pc' : Nat) (w' : Wd) (r : Option PV) (H : Heap) (locs : List Loc) (ls' : Array Slot), Wx s D cI cZ cQ sa ad ks A w' H locs → (∀ v, r = some v → vok ks v) → rtk y pc' r → Q w' r → W p l e R s m args below meth c H locs cells slots Qf (F0 m pc' ls' (r.toList.map (conc sa ad))))) (hI : ins y pc = (41, u0, u1, u2, nx)) (hk : ∀ (pc' : Nat) (ls' : Ls) (st' : List PV) (w' : Wd), kk pc' ls' st' w' → GG y p l e R s m args below meth c cells slots Qf D cI cZ cQ sa ad ks A pc' ls' st' w') : GG y p l e R s m args below meth c cells slots Qf D cI cZ cQ sa ad ks A pc ls st w := by
  split at h
  · exact so_41 hF hI (hk _ _ _ _ h)
  · exact h.elim
theorem st_42 {u0 : Int32} {u1 u2 nx : Nat} {kk : Nat → Ls → List PV → Wd → Prop} (h : (match st with
    | .inl y :: .inr (.inl x) :: t => kk nx ls (vL (x <<< (y.toInt64 &&& 63)) :: t) w
    | _ => False)) (hF : Fr y d p R s m args c cells slots) (hC : Cx D cI cZ cQ sa sv A s) (hX : Sx scr sa A s) (hA : ∀ q, s.heap.size ≤ q → A q) (hfin : (∀ (pc' : Nat) (w' : Wd) (r : Option PV) (H : Heap) (locs : List Loc) (ls' : Array Slot), Wx s D cI cZ cQ sa ad ks A w' H locs → (∀ v, r = some v → vok ks v) → rtk y pc' r → Q w' r → W p l e R s m args below meth c H locs cells slots Qf (F0 m pc' ls' (r.toList.map (conc sa ad))))) (hI : ins y pc = (42, u0, u1, u2, nx)) (hk : ∀ (pc' : Nat) (ls' : Ls) (st' : List PV) (w' : Wd), kk pc' ls' st' w' → GG y p l e R s m args below meth c cells slots Qf D cI cZ cQ sa ad ks A pc' ls' st' w') : GG y p l e R s m args below meth c cells slots Qf D cI cZ cQ sa ad ks A pc ls st w := by
  split at h
  · exact so_42 hF hI (hk _ _ _ _ h)
  · exact h.elim
theorem st_43 {u0 : Int32} {u1 u2 nx : Nat} {kk : Nat → Ls → List PV → Wd → Prop} (h : (match st with
    | .inr (.inl y) :: .inr (.inl x) :: t => kk nx ls (vL (x ||| y) :: t) w
    | _ => False)) (hF : Fr y d p R s m args c cells slots) (hC : Cx D cI cZ cQ sa sv A s) (hX : Sx scr sa A s) (hA : ∀ q, s.heap.size ≤ q → A q) (hfin : (∀ (pc' : Nat) (w' : Wd) (r : Option PV) (H : Heap) (locs : List Loc) (ls' : Array Slot), Wx s D cI cZ cQ sa ad ks A w' H locs → (∀ v, r = some v → vok ks v) → rtk y pc' r → Q w' r → W p l e R s m args below meth c H locs cells slots Qf (F0 m pc' ls' (r.toList.map (conc sa ad))))) (hI : ins y pc = (43, u0, u1, u2, nx)) (hk : ∀ (pc' : Nat) (ls' : Ls) (st' : List PV) (w' : Wd), kk pc' ls' st' w' → GG y p l e R s m args below meth c cells slots Qf D cI cZ cQ sa ad ks A pc' ls' st' w') : GG y p l e R s m args below meth c cells slots Qf D cI cZ cQ sa ad ks A pc ls st w := by
  split at h
  · exact so_43 hF hI (hk _ _ _ _ h)
  · exact h.elim
theorem st_44 {u0 : Int32} {u1 u2 nx : Nat} {kk : Nat → Ls → List PV → Wd → Prop} (h : (match st with
    | .inr (.inl y) :: .inr (.inl x) :: t => kk nx ls (vI (lg_cmp x y) :: t) w
    | _ => False)) (hF : Fr y d p R s m args c cells slots) (hC : Cx D cI cZ cQ sa sv A s) (hX : Sx scr sa A s) (hA : ∀ q, s.heap.size ≤ q → A q) (hfin : (∀ (pc' : Nat) (w' : Wd) (r : Option PV) (H : Heap) (locs : List Loc) (ls' : Array Slot), Wx s D cI cZ cQ sa ad ks A w' H locs → (∀ v, r = some v → vok ks v) → rtk y pc' r → Q w' r → W p l e R s m args below meth c H locs cells slots Qf (F0 m pc' ls' (r.toList.map (conc sa ad))))) (hI : ins y pc = (44, u0, u1, u2, nx)) (hk : ∀ (pc' : Nat) (ls' : Ls) (st' : List PV) (w' : Wd), kk pc' ls' st' w' → GG y p l e R s m args below meth c cells slots Qf D cI cZ cQ sa ad ks A pc' ls' st' w') : GG y p l e R s m args below meth c cells slots Qf D cI cZ cQ sa ad ks A pc ls st w := by
  split at h
  · exact so_44 hF hI (hk _ _ _ _ h)
  · exact h.elim
theorem st_45 {u0 : Int32} {u1 u2 nx : Nat} {kk : Nat → Ls → List PV → Wd → Prop} (h : (match st with
    | .inr (.inl x) :: t => kk nx ls (vI x.toInt32 :: t) w
    | _ => False)) (hF : Fr y d p R s m args c cells slots) (hC : Cx D cI cZ cQ sa sv A s) (hX : Sx scr sa A s) (hA : ∀ q, s.heap.size ≤ q → A q) (hfin : (∀ (pc' : Nat) (w' : Wd) (r : Option PV) (H : Heap) (locs : List Loc) (ls' : Array Slot), Wx s D cI cZ cQ sa ad ks A w' H locs → (∀ v, r = some v → vok ks v) → rtk y pc' r → Q w' r → W p l e R s m args below meth c H locs cells slots Qf (F0 m pc' ls' (r.toList.map (conc sa ad))))) (hI : ins y pc = (45, u0, u1, u2, nx)) (hk : ∀ (pc' : Nat) (ls' : Ls) (st' : List PV) (w' : Wd), kk pc' ls' st' w' → GG y p l e R s m args below meth c cells slots Qf D cI cZ cQ sa ad ks A pc' ls' st' w') : GG y p l e R s m args below meth c cells slots Qf D cI cZ cQ sa ad ks A pc ls st w := by
  split at h
  · exact so_45 hF hI (hk _ _ _ _ h)
  · exact h.elim
theorem st_46 {u0 : Int32} {u1 u2 nx : Nat} {kk : Nat → Ls → List PV → Wd → Prop} (h : (match st with
    | .inl y :: .inl x :: t => kk nx ls (vI (x.toUInt32 >>> (y.toUInt32 &&& Int32.toUInt32 31)).toInt32 :: t) w
    | _ => False)) (hF : Fr y d p R s m args c cells slots) (hC : Cx D cI cZ cQ sa sv A s) (hX : Sx scr sa A s) (hA : ∀ q, s.heap.size ≤ q → A q) (hfin : (∀ (pc' : Nat) (w' : Wd) (r : Option PV) (H : Heap) (locs : List Loc) (ls' : Array Slot), Wx s D cI cZ cQ sa ad ks A w' H locs → (∀ v, r = some v → vok ks v) → rtk y pc' r → Q w' r → W p l e R s m args below meth c H locs cells slots Qf (F0 m pc' ls' (r.toList.map (conc sa ad))))) (hI : ins y pc = (46, u0, u1, u2, nx)) (hk : ∀ (pc' : Nat) (ls' : Ls) (st' : List PV) (w' : Wd), kk pc' ls' st' w' → GG y p l e R s m args below meth c cells slots Qf D cI cZ cQ sa ad ks A pc' ls' st' w') : GG y p l e R s m args below meth c cells slots Qf D cI cZ cQ sa ad ks A pc ls st w := by
  split at h
  · exact so_46 hF hI (hk _ _ _ _ h)
  · exact h.elim
theorem st_47 {u0 : Int32} {a u2 nx : Nat} {kk : Nat → Ls → List PV → Wd → Prop} (h : (match st with
    | .inl x :: t => Br (0 < x) (kk a ls t w) (kk nx ls t w)
    | _ => False)) (hF : Fr y d p R s m args c cells slots) (hC : Cx D cI cZ cQ sa sv A s) (hX : Sx scr sa A s) (hA : ∀ q, s.heap.size ≤ q → A q) (hfin : (∀ (pc' : Nat) (w' : Wd) (r : Option PV) (H : Heap) (locs : List Loc) (ls' : Array Slot), Wx s D cI cZ cQ sa ad ks A w' H locs → (∀ v, r = some v → vok ks v) → rtk y pc' r → Q w' r → W p l e R s m args below meth c H locs cells slots Qf (F0 m pc' ls' (r.toList.map (conc sa ad))))) (hI : ins y pc = (47, u0, a, u2, nx)) (hk : ∀ (pc' : Nat) (ls' : Ls) (st' : List PV) (w' : Wd), kk pc' ls' st' w' → GG y p l e R s m args below meth c cells slots Qf D cI cZ cQ sa ad ks A pc' ls' st' w') : GG y p l e R s m args below meth c cells slots Qf D cI cZ cQ sa ad ks A pc ls st w := by
  split at h
  · exact so_47 hF hI (fun z => hk _ _ _ _ (h.1 z)) (fun z => hk _ _ _ _ (h.2 z))
  · exact h.elim
theorem st_48 {u0 : Int32} {u1 u2 nx : Nat} {kk : Nat → Ls → List PV → Wd → Prop} (h : (match st with
    | .inr (.inr (.inl (b, k, _))) :: t => (match ki b k with
      | (1, n) => kk nx ls (vI (nI n) :: t) w
      | _ => False)
    | .inr (.inr (.inr 99)) :: t => (match scr with
      | some (n, _) => kk nx ls (vI (nI n) :: t) w
      | none => False)
    | _ => False)) (hF : Fr y d p R s m args c cells slots) (hC : Cx D cI cZ cQ sa sv A s) (hX : Sx scr sa A s) (hA : ∀ q, s.heap.size ≤ q → A q) (hfin : (∀ (pc' : Nat) (w' : Wd) (r : Option PV) (H : Heap) (locs : List Loc) (ls' : Array Slot), Wx s D cI cZ cQ sa ad ks A w' H locs → (∀ v, r = some v → vok ks v) → rtk y pc' r → Q w' r → W p l e R s m args below meth c H locs cells slots Qf (F0 m pc' ls' (r.toList.map (conc sa ad))))) (hI : ins y pc = (48, u0, u1, u2, nx)) (hk : ∀ (pc' : Nat) (ls' : Ls) (st' : List PV) (w' : Wd), kk pc' ls' st' w' → GG y p l e R s m args below meth c cells slots Qf D cI cZ cQ sa ad ks A pc' ls' st' w') : GG y p l e R s m args below meth c cells slots Qf D cI cZ cQ sa ad ks A pc ls st w := by
  split at h
  · split at h
    · rename_i n hn
      exact so_48 hF hC hI hn (hk _ _ _ _ h)
    · exact h.elim
  · split at h
    · exact so_48s hF hX hI (hk _ _ _ _ h)
    · exact h.elim
  · exact h.elim
theorem st_49 {u0 : Int32} {u1 u2 nx : Nat} {kk : Nat → Ls → List PV → Wd → Prop} (h : (match st with
    | .inl y :: .inl x :: t => ¬ y = 0 ∧ kk nx ls (vI (x / y) :: t) w
    | _ => False)) (hF : Fr y d p R s m args c cells slots) (hC : Cx D cI cZ cQ sa sv A s) (hX : Sx scr sa A s) (hA : ∀ q, s.heap.size ≤ q → A q) (hfin : (∀ (pc' : Nat) (w' : Wd) (r : Option PV) (H : Heap) (locs : List Loc) (ls' : Array Slot), Wx s D cI cZ cQ sa ad ks A w' H locs → (∀ v, r = some v → vok ks v) → rtk y pc' r → Q w' r → W p l e R s m args below meth c H locs cells slots Qf (F0 m pc' ls' (r.toList.map (conc sa ad))))) (hI : ins y pc = (49, u0, u1, u2, nx)) (hk : ∀ (pc' : Nat) (ls' : Ls) (st' : List PV) (w' : Wd), kk pc' ls' st' w' → GG y p l e R s m args below meth c cells slots Qf D cI cZ cQ sa ad ks A pc' ls' st' w') : GG y p l e R s m args below meth c cells slots Qf D cI cZ cQ sa ad ks A pc ls st w := by
  split at h
  · exact so_49 hF hI h.1 (hk _ _ _ _ h.2)
  · exact h.elim
theorem st_50 {u0 : Int32} {u1 u2 nx : Nat} {kk : Nat → Ls → List PV → Wd → Prop} (h : (match st with
    | .inl y :: .inl x :: t => ¬ y = 0 ∧ kk nx ls (vI (x - x / y * y) :: t) w
    | _ => False)) (hF : Fr y d p R s m args c cells slots) (hC : Cx D cI cZ cQ sa sv A s) (hX : Sx scr sa A s) (hA : ∀ q, s.heap.size ≤ q → A q) (hfin : (∀ (pc' : Nat) (w' : Wd) (r : Option PV) (H : Heap) (locs : List Loc) (ls' : Array Slot), Wx s D cI cZ cQ sa ad ks A w' H locs → (∀ v, r = some v → vok ks v) → rtk y pc' r → Q w' r → W p l e R s m args below meth c H locs cells slots Qf (F0 m pc' ls' (r.toList.map (conc sa ad))))) (hI : ins y pc = (50, u0, u1, u2, nx)) (hk : ∀ (pc' : Nat) (ls' : Ls) (st' : List PV) (w' : Wd), kk pc' ls' st' w' → GG y p l e R s m args below meth c cells slots Qf D cI cZ cQ sa ad ks A pc' ls' st' w') : GG y p l e R s m args below meth c cells slots Qf D cI cZ cQ sa ad ks A pc ls st w := by
  split at h
  · exact so_50 hF hI h.1 (hk _ _ _ _ h.2)
  · exact h.elim
theorem st_51 {u0 : Int32} {u1 u2 u3 : Nat} {kk : Nat → Ls → List PV → Wd → Prop} (h : (match st with
    | [.inr (.inr (.inl q))] => Q w (some (.inr (.inr (.inl q))))
    | _ => False)) (hF : Fr y d p R s m args c cells slots) (hC : Cx D cI cZ cQ sa sv A s) (hX : Sx scr sa A s) (hA : ∀ q, s.heap.size ≤ q → A q) (hfin : (∀ (pc' : Nat) (w' : Wd) (r : Option PV) (H : Heap) (locs : List Loc) (ls' : Array Slot), Wx s D cI cZ cQ sa ad ks A w' H locs → (∀ v, r = some v → vok ks v) → rtk y pc' r → Q w' r → W p l e R s m args below meth c H locs cells slots Qf (F0 m pc' ls' (r.toList.map (conc sa ad))))) (hI : ins y pc = (51, u0, u1, u2, u3)) (hk : ∀ (pc' : Nat) (ls' : Ls) (st' : List PV) (w' : Wd), kk pc' ls' st' w' → GG y p l e R s m args below meth c cells slots Qf D cI cZ cQ sa ad ks A pc' ls' st' w') : GG y p l e R s m args below meth c cells slots Qf D cI cZ cQ sa ad ks A pc ls st w := by
  split at h
  · exact so_51 hfin hI h
  · exact h.elim
theorem st_52 {u0 : Int32} {u1 u2 nx : Nat} {kk : Nat → Ls → List PV → Wd → Prop} (h : (match st with
    | .inr (.inr (.inr i)) :: t => i < 17 ∧ 3 < d ∧ kk nx ls (vI (nI (sLen i)) :: t) w
    | _ => False)) (hF : Fr y d p R s m args c cells slots) (hC : Cx D cI cZ cQ sa sv A s) (hX : Sx scr sa A s) (hA : ∀ q, s.heap.size ≤ q → A q) (hfin : (∀ (pc' : Nat) (w' : Wd) (r : Option PV) (H : Heap) (locs : List Loc) (ls' : Array Slot), Wx s D cI cZ cQ sa ad ks A w' H locs → (∀ v, r = some v → vok ks v) → rtk y pc' r → Q w' r → W p l e R s m args below meth c H locs cells slots Qf (F0 m pc' ls' (r.toList.map (conc sa ad))))) (hI : ins y pc = (52, u0, u1, u2, nx)) (hk : ∀ (pc' : Nat) (ls' : Ls) (st' : List PV) (w' : Wd), kk pc' ls' st' w' → GG y p l e R s m args below meth c cells slots Qf D cI cZ cQ sa ad ks A pc' ls' st' w') : GG y p l e R s m args below meth c cells slots Qf D cI cZ cQ sa ad ks A pc ls st w := by
  split at h
  · exact so_52 hF hC hI h.1 h.2.1 (hk _ _ _ _ h.2.2)
  · exact h.elim
theorem st_53 {u0 : Int32} {u1 u2 nx : Nat} {kk : Nat → Ls → List PV → Wd → Prop} (h : (match st with
    | .inl x :: .inr (.inr (.inr i)) :: t => i < 17 ∧ 6 < d ∧ Bd x (sLen i) (kk nx ls (vI (sCh i x.toNatClampNeg) :: t) w)
    | _ => False)) (hF : Fr y d p R s m args c cells slots) (hC : Cx D cI cZ cQ sa sv A s) (hX : Sx scr sa A s) (hA : ∀ q, s.heap.size ≤ q → A q) (hfin : (∀ (pc' : Nat) (w' : Wd) (r : Option PV) (H : Heap) (locs : List Loc) (ls' : Array Slot), Wx s D cI cZ cQ sa ad ks A w' H locs → (∀ v, r = some v → vok ks v) → rtk y pc' r → Q w' r → W p l e R s m args below meth c H locs cells slots Qf (F0 m pc' ls' (r.toList.map (conc sa ad))))) (hI : ins y pc = (53, u0, u1, u2, nx)) (hk : ∀ (pc' : Nat) (ls' : Ls) (st' : List PV) (w' : Wd), kk pc' ls' st' w' → GG y p l e R s m args below meth c cells slots Qf D cI cZ cQ sa ad ks A pc' ls' st' w') : GG y p l e R s m args below meth c cells slots Qf D cI cZ cQ sa ad ks A pc ls st w := by
  split at h
  · exact so_53 hF hC hI h.1 h.2.1 h.2.2.1 (hk _ _ _ _ h.2.2.2)
  · exact h.elim
theorem st_54 {u0 : Int32} {u1 u2 u3 : Nat} {kk : Nat → Ls → List PV → Wd → Prop} (h : (match st with
    | [.inl x] => zok x ∧ Q w (some (vI x))
    | _ => False)) (hF : Fr y d p R s m args c cells slots) (hC : Cx D cI cZ cQ sa sv A s) (hX : Sx scr sa A s) (hA : ∀ q, s.heap.size ≤ q → A q) (hfin : (∀ (pc' : Nat) (w' : Wd) (r : Option PV) (H : Heap) (locs : List Loc) (ls' : Array Slot), Wx s D cI cZ cQ sa ad ks A w' H locs → (∀ v, r = some v → vok ks v) → rtk y pc' r → Q w' r → W p l e R s m args below meth c H locs cells slots Qf (F0 m pc' ls' (r.toList.map (conc sa ad))))) (hI : ins y pc = (54, u0, u1, u2, u3)) (hk : ∀ (pc' : Nat) (ls' : Ls) (st' : List PV) (w' : Wd), kk pc' ls' st' w' → GG y p l e R s m args below meth c cells slots Qf D cI cZ cQ sa ad ks A pc' ls' st' w') : GG y p l e R s m args below meth c cells slots Qf D cI cZ cQ sa ad ks A pc ls st w := by
  split at h
  · exact so_54 hfin hI h.1 h.2
  · exact h.elim

theorem step_sound {kk : Nat → Ls → List PV → Wd → Prop} (hF : Fr y d p R s m args c cells slots) (hC : Cx D cI cZ cQ sa sv A s) (hX : Sx scr sa A s) (hA : ∀ q, s.heap.size ≤ q → A q) (hfin : (∀ (pc' : Nat) (w' : Wd) (r : Option PV) (H : Heap) (locs : List Loc) (ls' : Array Slot), Wx s D cI cZ cQ sa ad ks A w' H locs → (∀ v, r = some v → vok ks v) → rtk y pc' r → Q w' r → W p l e R s m args below meth c H locs cells slots Qf (F0 m pc' ls' (r.toList.map (conc sa ad))))) (h : step1 d y scr pc ls st w Q kk) (hk : ∀ (pc' : Nat) (ls' : Ls) (st' : List PV) (w' : Wd), kk pc' ls' st' w' → GG y p l e R s m args below meth c cells slots Qf D cI cZ cQ sa ad ks A pc' ls' st' w') : GG y p l e R s m args below meth c cells slots Qf D cI cZ cQ sa ad ks A pc ls st w := by
  unfold step1 at h
  generalize hI : ins y pc = I at h
  obtain ⟨o, v, a, b, nx⟩ := I
  match o, hI, h with
  | 0, hI, h => exact st_0 h hF hC hX hA hfin hI hk
  | 1, hI, h => exact st_1 h hF hC hX hA hfin hI hk
  | 2, hI, h => exact st_2 h hF hC hX hA hfin hI hk
  | 3, hI, h => exact st_3 h hF hC hX hA hfin hI hk
  | 4, hI, h => exact st_4 h hF hC hX hA hfin hI hk
  | 5, hI, h => exact st_5 h hF hC hX hA hfin hI hk
  | 6, hI, h => exact st_6 h hF hC hX hA hfin hI hk
  | 7, hI, h => exact st_7 h hF hC hX hA hfin hI hk
  | 8, hI, h => exact st_8 h hF hC hX hA hfin hI hk
  | 9, hI, h => exact st_9 h hF hC hX hA hfin hI hk
  | 10, hI, h => exact st_10 h hF hC hX hA hfin hI hk
  | 11, hI, h => exact st_11 h hF hC hX hA hfin hI hk
  | 12, hI, h => exact st_12 h hF hC hX hA hfin hI hk
  | 13, hI, h => exact st_13 h hF hC hX hA hfin hI hk
  | 14, hI, h => exact st_14 h hF hC hX hA hfin hI hk
  | 15, hI, h => exact st_15 h hF hC hX hA hfin hI hk
  | 16, hI, h => exact st_16 h hF hC hX hA hfin hI hk
  | 17, hI, h => exact st_17 h hF hC hX hA hfin hI hk
  | 18, hI, h => exact st_18 h hF hC hX hA hfin hI hk
  | 19, hI, h => exact st_19 h hF hC hX hA hfin hI hk
  | 20, hI, h => exact st_20 h hF hC hX hA hfin hI hk
  | 21, hI, h => exact st_21 h hF hC hX hA hfin hI hk
  | 22, hI, h => exact st_22 h hF hC hX hA hfin hI hk
  | 23, hI, h => exact st_23 h hF hC hX hA hfin hI hk
  | 24, hI, h => exact st_24 h hF hC hX hA hfin hI hk
  | 25, hI, h => exact st_25 h hF hC hX hA hfin hI hk
  | 26, hI, h => exact st_26 h hF hC hX hA hfin hI hk
  | 27, hI, h => exact st_27 h hF hC hX hA hfin hI hk
  | 28, hI, h => exact st_28 h hF hC hX hA hfin hI hk
  | 29, hI, h => exact st_29 h hF hC hX hA hfin hI hk
  | 30, hI, h => exact st_30 h hF hC hX hA hfin hI hk
  | 31, hI, h => exact st_31 h hF hC hX hA hfin hI hk
  | 32, hI, h => exact st_32 h hF hC hX hA hfin hI hk
  | 33, hI, h => exact st_33 h hF hC hX hA hfin hI hk
  | 34, hI, h => exact st_34 h hF hC hX hA hfin hI hk
  | 35, hI, h => exact st_35 h hF hC hX hA hfin hI hk
  | 36, hI, h => exact st_36 h hF hC hX hA hfin hI hk
  | 37, hI, h => exact st_37 h hF hC hX hA hfin hI hk
  | 38, hI, h => exact st_38 h hF hC hX hA hfin hI hk
  | 39, hI, h => exact st_39 h hF hC hX hA hfin hI hk
  | 40, hI, h => exact st_40 h hF hC hX hA hfin hI hk
  | 41, hI, h => exact st_41 h hF hC hX hA hfin hI hk
  | 42, hI, h => exact st_42 h hF hC hX hA hfin hI hk
  | 43, hI, h => exact st_43 h hF hC hX hA hfin hI hk
  | 44, hI, h => exact st_44 h hF hC hX hA hfin hI hk
  | 45, hI, h => exact st_45 h hF hC hX hA hfin hI hk
  | 46, hI, h => exact st_46 h hF hC hX hA hfin hI hk
  | 47, hI, h => exact st_47 h hF hC hX hA hfin hI hk
  | 48, hI, h => exact st_48 h hF hC hX hA hfin hI hk
  | 49, hI, h => exact st_49 h hF hC hX hA hfin hI hk
  | 50, hI, h => exact st_50 h hF hC hX hA hfin hI hk
  | 51, hI, h => exact st_51 h hF hC hX hA hfin hI hk
  | 52, hI, h => exact st_52 h hF hC hX hA hfin hI hk
  | 53, hI, h => exact st_53 h hF hC hX hA hfin hI hk
  | 54, hI, h => exact st_54 h hF hC hX hA hfin hI hk
  | o + 55, hI, h => exact False.elim h
theorem ev_sound {stops : List Nat} : ∀ (n : Nat) {pc : Nat} {ls : Ls} {st : List PV} {w : Wd}, ev d y scr stops Q n pc ls st w → Go d y scr pc ls st w Q
  | 0, pc, ls, st, w, h => h
  | n + 1, pc, ls, st, w, h => by
    intro p l e R s m args below meth c cells slots Qf D cI cZ cQ sa sv ad ks A hF hC hX hA hfin
    refine step_sound hF hC hX hA hfin h (fun pc' ls' st' w' z => ?_)
    split at z
    · exact z p l e R s m args below meth c cells slots Qf D cI cZ cQ sa sv ad ks A hF hC hX hA hfin
    · exact ev_sound n z p l e R s m args below meth c cells slots Qf D cI cZ cQ sa sv ad ks A hF hC hX hA hfin
end SND4
/-- the locals at a method's entry -/
def entA : List PV → Ls
  | [] => []
  | .inr (.inl x) :: t => some (.inr (.inl x)) :: none :: entA t
  | v :: t => some v :: entA t
def entL (n : Nat) (av : List PV) : Ls := entA av ++ List.replicate (n - (entA av).length) none
theorem entA_len {sa : Nat → Nat} {ad : Key → Nat} : ∀ av : List PV, (lg_sl (av.map (conc sa ad))).length = (entA av).length
  | [] => rfl
  | .inl x :: t => by
    have := entA_len (sa := sa) (ad := ad) t
    unfold lg_sl at this ⊢
    rw [List.map_cons, List.flatMap_cons, List.length_append, this]
    simp only [entA, conc, Value.category, List.length_cons]
    simp
    try omega
  | .inr (.inl x) :: t => by
    have := entA_len (sa := sa) (ad := ad) t
    unfold lg_sl at this ⊢
    rw [List.map_cons, List.flatMap_cons, List.length_append, this]
    simp only [entA, conc, Value.category, List.length_cons]
    simp
    try omega
  | .inr (.inr (.inl x)) :: t => by
    have := entA_len (sa := sa) (ad := ad) t
    unfold lg_sl at this ⊢
    rw [List.map_cons, List.flatMap_cons, List.length_append, this]
    simp only [entA, conc, Value.category, List.length_cons]
    simp
    try omega
  | .inr (.inr (.inr x)) :: t => by
    have := entA_len (sa := sa) (ad := ad) t
    unfold lg_sl at this ⊢
    rw [List.map_cons, List.flatMap_cons, List.length_append, this]
    simp only [entA, conc, Value.category, List.length_cons]
    simp
    try omega
theorem entA_at {sa : Nat → Nat} {ad : Key → Nat} : ∀ (av : List PV) (n i : Nat) (v : PV), (entA av)[i]? = some (some v) → (n + i, conc sa ad v) ∈ lv_args n (av.map (conc sa ad))
  | [], n, i, v, h => by simp [entA] at h
  | .inl x :: t, n, i, v, h => by
    cases i with
    | zero =>
      simp [entA] at h
      subst h
      exact List.mem_cons_self
    | succ i =>
      simp [entA] at h
      have := entA_at (sa := sa) (ad := ad) t (n + 1) i v h
      rw [show n + (i + 1) = n + 1 + i by omega]
      exact List.mem_cons_of_mem _ this
  | .inr (.inr (.inl x)) :: t, n, i, v, h => by
    cases i with
    | zero =>
      simp [entA] at h
      subst h
      exact List.mem_cons_self
    | succ i =>
      simp [entA] at h
      have := entA_at (sa := sa) (ad := ad) t (n + 1) i v h
      rw [show n + (i + 1) = n + 1 + i by omega]
      exact List.mem_cons_of_mem _ this
  | .inr (.inr (.inr x)) :: t, n, i, v, h => by
    cases i with
    | zero =>
      simp [entA] at h
      subst h
      exact List.mem_cons_self
    | succ i =>
      simp [entA] at h
      have := entA_at (sa := sa) (ad := ad) t (n + 1) i v h
      rw [show n + (i + 1) = n + 1 + i by omega]
      exact List.mem_cons_of_mem _ this
  | .inr (.inl x) :: t, n, i, v, h => by
    match i, h with
    | 0, h =>
      simp [entA] at h
      subst h
      exact List.mem_cons_self
    | 1, h => simp [entA] at h
    | i + 2, h =>
      simp [entA] at h
      have := entA_at (sa := sa) (ad := ad) t (n + 2) i v h
      rw [show n + (i + 2) = n + 2 + i by omega]
      exact List.mem_cons_of_mem _ this
theorem entA_in : ∀ (av : List PV) (v : PV), some v ∈ entA av → v ∈ av
  | [], v, h => by simp [entA] at h
  | .inl x :: t, v, h => by
    simp only [entA, List.mem_cons, Option.some.injEq] at h
    rcases h with h | h
    · exact List.mem_cons.mpr (Or.inl h)
    · exact List.mem_cons_of_mem _ (entA_in t v h)
  | .inr (.inl x) :: t, v, h => by
    simp only [entA, List.mem_cons, Option.some.injEq, reduceCtorEq, false_or] at h
    rcases h with h | h
    · exact List.mem_cons.mpr (Or.inl h)
    · exact List.mem_cons_of_mem _ (entA_in t v h)
  | .inr (.inr (.inl x)) :: t, v, h => by
    simp only [entA, List.mem_cons, Option.some.injEq] at h
    rcases h with h | h
    · exact List.mem_cons.mpr (Or.inl h)
    · exact List.mem_cons_of_mem _ (entA_in t v h)
  | .inr (.inr (.inr x)) :: t, v, h => by
    simp only [entA, List.mem_cons, Option.some.injEq] at h
    rcases h with h | h
    · exact List.mem_cons.mpr (Or.inl h)
    · exact List.mem_cons_of_mem _ (entA_in t v h)
theorem entL_at {n : Nat} {av : List PV} {i : Nat} {v : PV} (h : (entL n av)[i]? = some (some v)) : (entA av)[i]? = some (some v) := by
  unfold entL at h
  by_cases hi : i < (entA av).length
  · rw [List.getElem?_append_left hi] at h
    exact h
  · rw [List.getElem?_append_right (by omega)] at h
    have := List.mem_of_getElem? h
    simp at this
theorem ent_Lok {sa : Nat → Nat} {ad : Key → Nat} {n : Nat} {av : List PV} (h : (entA av).length ≤ n) : Lok sa ad n ((lg_sl (av.map (conc sa ad)) ++ List.replicate (n - (lg_sl (av.map (conc sa ad))).length) Slot.unset).toArray) (entL n av) := by
  have h1 := lv_entry (av.map (conc sa ad)) (n := n) (by rw [entA_len]; exact h)
  refine ⟨h1.1, h1.2.1, fun i v hi => ?_⟩
  have := entA_at (sa := sa) (ad := ad) av 0 i v (entL_at hi)
  rw [Nat.zero_add] at this
  exact h1.2.2 _ this
theorem own_a : ∀ y, y < 168 → cN (yO y) = (yN y).cls := by decide +kernel
theorem own_b : ∀ y, y < 168 → plainFor (yN y) = true := by decide +kernel
theorem own_ok (y : Nat) (h : y < 168) : cN (yO y) = (yN y).cls ∧ plainFor (yN y) = true := ⟨own_a y h, own_b y h⟩
/-- a method's contract out of a run of the small machine from its entry -/
theorem ctr_of {d y : Nat} {av : List PV} {w : Wd} {Q : Wd → Option PV → Prop} (hy : y < 168) (hl : (entA av).length ≤ yL y) (h : Go d y none 0 (entL (yL y) av) [] w Q) : Ctr d y av w Q := by
  intro l D cI cZ cQ sa sv ad ks sz hwf hav
  refine va_MetF (cc := yC y) (maxL := yL y) (ret := yR y) (own_ok y hy).2 rfl ?_
  intro p e s m args below meth c s₁ B hml hv
  obtain ⟨rfl, hsz, hP, hD0, hCx⟩ := hv
  have hx := B.exec
  have hb := B.bytes
  have hr := B.returns
  have hts := atoms_spec (ws := ywd y) B.pre
  have hown : s.vm.findClass (yN y).cls = some m.cls := findClass_of_methodNamed B.named
  have hlocks := B.notSynchronized
  rw [← (own_ok y hy).1] at hown
  subst hsz
  have hD := hD0.self (sz := s.heap.size)
  rw [lg_entry_eq]
  refine h p l e (rmd d) s m _ below meth c 0 0 _ D cI cZ cQ sa sv ad ks (va_A (wl cI cZ cQ sa ad ks w) s.heap.size) ⟨hx, hb, hml, hown, fun w hw => hts w (List.mem_cons_of_mem _ hw), Nat.le_refl _, Nat.le_refl _, Nat.le_refl _, Nat.le_refl _⟩ hCx trivial (fun q h => Or.inr h) ?_ s.heap [] _ ⟨hwf, hP, hD, va_S.rf⟩ (ent_Lok hl) (fun v hv => hav v (entA_in av v ?_)) (fun v hv => by cases hv)
  · intro pc' w' r H locs ls' hW hvr hk hq
    obtain ⟨hwf', hP', hD', hS'⟩ := hW
    match r, hk with
    | none, hk => exact W.vret hx hb (by rw [hr]; exact hk.2) (fun t ht hW => ⟨⟨w', none, rfl, hq, hwf', hvr, by rw [ht]; exact hP'⟩, hS'.F ht⟩) hS'.2.2 hk.1
    | some (.inl x), hk =>
      obtain ⟨h1, ty, h2, h3⟩ := hk
      exact W.zret hx hb (by rw [hr]; exact h2) h3 (fun t ht hW => ⟨⟨w', some (.inl x), rfl, hq, hwf', hvr, by rw [ht]; exact hP'⟩, hS'.F ht⟩) hS'.2.2 h1
    | some (.inr (.inr (.inl q))), hk =>
      obtain ⟨h1, nn, h2⟩ := hk
      exact W.aret hx hb (by rw [hr]; exact h2) (Or.inl ⟨nn, rfl⟩) (Or.inr ⟨_, rfl⟩) (fun t ht hW => ⟨⟨w', some (.inr (.inr (.inl q))), rfl, hq, hwf', hvr, by rw [ht]; exact hP'⟩, hS'.F ht⟩) hS'.2.2 h1
  · unfold entL at hv
    rcases List.mem_append.mp hv with h1 | h1
    · exact h1
    · simp at h1
end
section
/-! how methods are run on the small machine -/
theorem ctr_ev (n : Nat) (stops : List Nat) {d y : Nat} {av : List PV} {w : Wd} {Q : Wd → Option PV → Prop} (hy : Nat.blt y 168 = true) (hl : Nat.ble (entA av).length (yL y) = true) (h : ev d y none stops Q n 0 (entL (yL y) av) [] w) : Ctr d y av w Q := ctr_of (nblt hy) (Nat.le_of_ble_eq_true hl) (ev_sound n h)
theorem go_ev (n : Nat) (stops : List Nat) {d y pc : Nat} {ls : Ls} {st : List PV} {w : Wd} {scr : Option (Nat × (Nat → Int32))} {Q : Wd → Option PV → Prop} (h : ev d y scr stops Q n pc ls st w) : Go d y scr pc ls st w Q := ev_sound n h
def Fn (d y : Nat) (av : List PV) (w w1 : Wd) (r : Option PV) : Prop := Ctr d y av w (fun w' r' => w' = w1 ∧ r' = r)
theorem bI {c t f : Prop} (h1 : c → t) (h2 : ¬ c → f) : Br c t f := ⟨h1, h2⟩
theorem bT {c t f : Prop} (h : c) (k : t) : Br c t f := ⟨fun _ => k, fun z => absurd h z⟩
theorem bF {c t f : Prop} (h : ¬ c) (k : f) : Br c t f := ⟨fun z => absurd z h, fun _ => k⟩
theorem dI {x : Int32} {n : Nat} {P : Prop} (h : vp_in x n) (k : P) : Bd x n P := ⟨h, k⟩
theorem iC {d d' y : Nat} {av : List PV} {w : Wd} {Q' K : Wd → Option PV → Prop} (hM : Ctr d' y av w Q') (hd : d' < d) (hk : ∀ w' r, Q' w' r → K w' r) : Inv d y av w K := ⟨d', Q', hd, hM, hk⟩
theorem iF {d d' y : Nat} {av : List PV} {w w1 : Wd} {r : Option PV} {K : Wd → Option PV → Prop} (hM : Fn d' y av w w1 r) (hd : d' < d) (hk : K w1 r) : Inv d y av w K := ⟨d', _, hd, hM, fun w' r' h => by rw [h.1, h.2]; exact hk⟩
def bi (c : Prop) [Decidable c] : Int32 := if c then 1 else 0
theorem bi_t {c : Prop} [Decidable c] (h : c) : bi c = 1 := if_pos h
theorem bi_f {c : Prop} [Decidable c] (h : ¬ c) : bi c = 0 := if_neg h
theorem bi_0 {c : Prop} [Decidable c] : bi c = 0 ↔ ¬ c := by
  by_cases h : c
  · rw [bi_t h]; exact ⟨fun z => absurd z (by decide), fun z => absurd h z⟩
  · rw [bi_f h]; exact ⟨fun _ => h, fun _ => rfl⟩
theorem zok_bi {c : Prop} [Decidable c] : zok (bi c) := by
  by_cases h : c
  · rw [bi_t h]; rfl
  · rw [bi_f h]; rfl
end
section
/-! numbers: rows of deeds, sets -/
def dd (row p : Nat) : Nat := row / 4 ^ p % 4
def wdd (row p d : Nat) : Nat := row - dd row p * 4 ^ p + d * 4 ^ p
theorem dd_lt (row p : Nat) : dd row p < 4 := Nat.mod_lt _ (by decide)
theorem sh_l : ∀ n, n < 32 → ((nI n &&& 31).toBitVec.smod 32).toNat = n := by decide +kernel
theorem nI_lit (n : Nat) : (OfNat.ofNat n : Int32) = nI n := rfl
theorem nI_dd {row p : Nat} (hr : row < 2 ^ 31) (hp : p < 16) : (nI row >>> ((2 * nI p) &&& 31)) &&& 3 = nI (dd row p) := by
  rw [show (2 : Int32) = nI 2 from rfl, pk_mul, pk_shrN hr _ (2 * p) (sh_l _ (by omega)), pk_andN (by
    have := Nat.div_le_self row (2 ^ (2 * p))
    omega) 2 (by decide)]
  unfold dd
  rw [Nat.pow_mul]
def wddB (row p d : Nat) : Bool := decide ((nI row &&& ((3 : Int32) <<< ((2 * nI p) &&& 31) ^^^ (-1))) ||| (nI d <<< ((2 * nI p) &&& 31)) = nI (wdd row p d))
set_option maxRecDepth 100000 in
theorem wdd_all : (List.range 64).all (fun a => (List.range 64).all (fun b => (List.range 6).all (fun p => (List.range 4).all (fun d => wddB (64 * a + b) p d)))) = true := by decide +kernel
theorem nI_wdd {row p d : Nat} (hr : row < 4096) (hp : p < 6) (hd : d < 4) : (nI row &&& ((3 : Int32) <<< ((2 * nI p) &&& 31) ^^^ (-1))) ||| (nI d <<< ((2 * nI p) &&& 31)) = nI (wdd row p d) := by
  have h1 := List.all_eq_true.mp wdd_all (row / 64) (List.mem_range.mpr (by omega))
  have h2 := List.all_eq_true.mp h1 (row % 64) (List.mem_range.mpr (by omega))
  have h3 := List.all_eq_true.mp h2 p (List.mem_range.mpr hp)
  have h4 := List.all_eq_true.mp h3 d (List.mem_range.mpr hd)
  rw [show 64 * (row / 64) + row % 64 = row by omega] at h4
  simpa [wddB] using h4
end
section
/-! numbers as Nat -/
theorem nIle {a b : Nat} (ha : a < 2 ^ 31) (hb : b < 2 ^ 31) : nI a ≤ nI b ↔ a ≤ b := by
  rw [Int32.le_iff_toInt_le, nI_toInt ha, nI_toInt hb]; omega
theorem nIlt {a b : Nat} (ha : a < 2 ^ 31) (hb : b < 2 ^ 31) : nI a < nI b ↔ a < b := by
  rw [Int32.lt_iff_toInt_lt, nI_toInt ha, nI_toInt hb]; omega
theorem nIeq {a b : Nat} (ha : a < 2 ^ 31) (hb : b < 2 ^ 31) : nI a = nI b ↔ a = b := by
  constructor
  · intro h
    have := congrArg Int32.toInt h
    rw [nI_toInt ha, nI_toInt hb] at this
    omega
  · intro h; rw [h]
theorem nI_m1 {a : Nat} (ha : a < 2 ^ 31) : ¬ nI a = -1 := by
  intro h
  have := congrArg Int32.toInt h
  rw [nI_toInt ha] at this
  have e : (-1 : Int32).toInt = -1 := by decide
  omega
theorem nI_ge0 {a : Nat} (ha : a < 2 ^ 31) : ¬ nI a < 0 := nI_pos ha
theorem i32_of {x : Int32} {N : Nat} (hN : N + 1 < 2 ^ 31) (h0 : 0 ≤ x) (h1 : x ≤ nI N) : ∃ k : Nat, k ≤ N ∧ x = nI k := by
  rcases pk_ix x (n := N + 1) hN with h | h | ⟨j, hj, h⟩
  · exact absurd h0 (Int32.not_le.mpr h)
  · exfalso
    have h2 := Int32.le_trans h h1
    rw [nIle (by omega) (by omega)] at h2
    omega
  · exact ⟨j, by omega, h⟩
theorem pow4_le {n : Nat} (h : n ≤ 6) : 4 ^ n ≤ 4096 := by
  have := Nat.pow_le_pow_right (n := 4) (by decide) h
  simpa using this
theorem pow4_pos (n : Nat) : 0 < 4 ^ n := Nat.pow_pos (by decide)
theorem nI_rows {n : Nat} (h : n ≤ 6) : (1 : Int32) <<< ((2 * nI n) &&& 31) = nI (4 ^ n) := by
  have : ∀ n, n < 7 → (1 : Int32) <<< ((2 * nI n) &&& 31) = nI (4 ^ n) := by decide +kernel
  exact this n (by omega)
theorem nI_sets {n : Nat} (h : n ≤ 6) : (1 : Int32) <<< (nI n &&& 31) = nI (2 ^ n) := by
  have : ∀ n, n < 7 → (1 : Int32) <<< (nI n &&& 31) = nI (2 ^ n) := by decide +kernel
  exact this n (by omega)
theorem nI_sub1 {n : Nat} (h : 1 ≤ n) : nI n - 1 = nI (n - 1) := by
  rw [show (1 : Int32) = nI 1 from rfl, pk_sub h]
/-- whether an int is a number below N -/
theorem in_iff {x : Int32} {N : Nat} (h1 : 1 ≤ N) (hN : N < 2 ^ 31) : ((0 : Int32) ≤ x ∧ x ≤ nI N - 1) ↔ ∃ k : Nat, k < N ∧ x = nI k := by
  rw [nI_sub1 h1]
  constructor
  · intro ⟨a, b⟩
    obtain ⟨k, h, e⟩ := i32_of (by omega) a b
    exact ⟨k, by omega, e⟩
  · rintro ⟨k, h, rfl⟩
    exact ⟨nI_pos' (by omega), (nIle (by omega) (by omega)).mpr (by omega)⟩
theorem nIadd (a b : Nat) : nI a + nI b = nI (a + b) := by
  unfold nI
  rw [Int32.ofNat_add]
/-! the statics of the class -/
theorem c_within (w : Wd) (x lo hi : Int32) : Fn 0 87 [vI x, vI lo, vI hi] w w (some (vI (bi (lo ≤ x ∧ x ≤ hi)))) := by
  refine ctr_ev 20 [] rfl rfl ?_
  refine bI (fun h1 => ?_) (fun h1 => bI (fun h2 => ?_) (fun h2 => ?_))
  · refine And.intro rfl (And.intro rfl ?_)
    rw [bi_f (fun z => Int32.not_le.mpr h1 z.1)]
  · refine And.intro rfl (And.intro rfl ?_)
    rw [bi_f (fun z => Int32.not_le.mpr h2 z.2)]
  · refine And.intro rfl (And.intro rfl ?_)
    rw [bi_t ⟨Int32.not_lt.mp h1, Int32.not_lt.mp h2⟩]
theorem c_deed (w : Wd) (x p : Int32) : Fn 0 89 [vI x, vI p] w w (some (vI ((x >>> ((2 * p) &&& 31)) &&& 3))) :=
  ctr_ev 20 [] rfl rfl (And.intro rfl rfl)
theorem c_deedN (w : Wd) {row p : Nat} (hr : row < 2 ^ 31) (hp : p < 16) : Fn 0 89 [vI (nI row), vI (nI p)] w w (some (vI (nI (dd row p)))) := by
  have := c_deed w (nI row) (nI p)
  rw [nI_dd hr hp] at this
  exact this
theorem c_withDeed (w : Wd) (x p d : Int32) : Fn 0 90 [vI x, vI p, vI d] w w (some (vI ((x &&& ((3 : Int32) <<< ((2 * p) &&& 31) ^^^ (-1))) ||| (d <<< ((2 * p) &&& 31))))) :=
  ctr_ev 20 [] rfl rfl (And.intro rfl rfl)
theorem c_withDeedN (w : Wd) {row p d : Nat} (hr : row < 4096) (hp : p < 6) (hd : d < 4) : Fn 0 90 [vI (nI row), vI (nI p), vI (nI d)] w w (some (vI (nI (wdd row p d)))) := by
  have := c_withDeed w (nI row) (nI p) (nI d)
  rw [nI_wdd hr hp hd] at this
  exact this
theorem c_isIn (w : Wd) (x p : Int32) : Fn 0 88 [vI x, vI p] w w (some (vI (bi ((x >>> (p &&& 31)) &&& 1 = 1)))) := by
  refine ctr_ev 20 [] rfl rfl (bI (fun h => ?_) (fun h => ?_))
  · refine And.intro rfl (And.intro rfl ?_)
    rw [bi_t h]
  · refine And.intro rfl (And.intro rfl ?_)
    rw [bi_f h]
theorem nI_bit {s p : Nat} (hs : s < 2 ^ 31) (hp : p < 32) : (nI s >>> (nI p &&& 31)) &&& 1 = nI (s / 2 ^ p % 2) := by
  rw [pk_shrN hs _ p (sh_l p hp), pk_andN (by
    have := Nat.div_le_self s (2 ^ p)
    omega) 1 (by decide)]
theorem nI_bit1 {s p : Nat} (hs : s < 2 ^ 31) (hp : p < 32) : ((nI s >>> (nI p &&& 31)) &&& 1 = 1) ↔ s.testBit p = true := by
  rw [nI_bit hs hp, show (1 : Int32) = nI 1 from rfl, nIeq (by omega) (by decide), Nat.testBit_eq_decide_div_mod_eq, decide_eq_true_eq]
theorem c_isInN (w : Wd) {s p : Nat} (hs : s < 2 ^ 31) (hp : p < 32) : Fn 0 88 [vI (nI s), vI (nI p)] w w (some (vI (bi (s.testBit p = true)))) := by
  have := c_isIn w (nI s) (nI p)
  rw [show bi ((nI s >>> (nI p &&& 31)) &&& 1 = 1) = bi (s.testBit p = true) from by
    by_cases h : s.testBit p = true
    · rw [bi_t h, bi_t ((nI_bit1 hs hp).mpr h)]
    · rw [bi_f h, bi_f (fun z => h ((nI_bit1 hs hp).mp z))]] at this
  exact this
def sumK (row : Nat) : Nat → Nat
  | 0 => 0
  | k + 1 => sumK row k + dd row k
theorem sumK_le (row k : Nat) : sumK row k ≤ 3 * k := by
  induction k with
  | zero => exact Nat.le_refl _
  | succ k ih =>
    have := dd_lt row k
    simp only [sumK]
    omega
theorem c_sum (w : Wd) {row : Nat} (hr : row < 2 ^ 31) : Fn 1 91 [vI (nI row)] w w (some (vI (nI (sumK row 6)))) := by
  have key : ∀ (j k : Nat) (p a : Int32), k + j = 6 → p = nI k → a = nI (sumK row k) → Go 1 91 none 4 [some (vI (nI row)), some (vI a), some (vI p)] [] w (fun w' r' => w' = w ∧ r' = some (vI (nI (sumK row 6)))) := by
    intro j
    induction j with
    | zero =>
      intro k p a hk hp ha
      refine go_ev 20 [4] ?_
      obtain rfl : k = 6 := by omega
      subst hp
      refine bT (by decide) (And.intro rfl ?_)
      rw [ha]
    | succ j ih =>
      intro k p a hk hp ha
      refine go_ev 20 [4] ?_
      subst hp
      refine bF (by rw [show (6 : Int32) = nI 6 from rfl, nIle (by decide) (by omega)]; omega) ?_
      refine iF (c_deedN w hr (by omega)) (by decide) ?_
      exact ih (k + 1) _ _ (by omega) (nI_succ k).symm (by rw [ha, nIadd]; rfl)
  refine ctr_ev 20 [4] rfl rfl ?_
  exact key 6 0 0 0 rfl rfl rfl
theorem c_isFurther (w : Wd) (x a b : Int32) : Fn 0 86 [vI x, vI a, vI b] w w (some (vI (bi (if x = 0 then b < a else a < b)))) := by
  refine ctr_ev 20 [] rfl rfl (bI (fun h => bI (fun h1 => ?_) (fun h1 => ?_)) (fun h => bI (fun h1 => ?_) (fun h1 => ?_)))
  · refine And.intro rfl (And.intro rfl ?_)
    simp only [if_pos h]
    rw [bi_f (Int32.not_lt.mpr h1)]
  · refine And.intro rfl (And.intro rfl ?_)
    simp only [if_pos h]
    rw [bi_t (Int32.not_le.mp h1)]
  · refine And.intro rfl (And.intro rfl ?_)
    simp only [if_neg h]
    rw [bi_f (Int32.not_lt.mpr h1)]
  · refine And.intro rfl (And.intro rfl ?_)
    simp only [if_neg h]
    rw [bi_t (Int32.not_le.mp h1)]
end
section
/-! the class above its persons: a village of n whose terms let l p row day, over any invariant I of its side of the world -/
def PQ (I : Sd → Prop) (m : Sd) (r : Int32) : Wd → Option PV → Prop := fun w' r' => ∃ c' : Sd, w' = (c', m) ∧ I c' ∧ r' = some (vI r)
def CH (n : Nat) (l : Nat → Nat → Nat → Nat) (I : Sd → Prop) : Prop :=
  (1 ≤ n ∧ n ≤ 6) ∧ (∀ p row day, l p row day < 4) ∧ (∀ c, I c → c.1 7 0 1 = nI n) ∧
  (∀ c m, I c → ∀ p row day, p < n → row < 4 ^ n → 1 ≤ day → day ≤ 9 → Ctr 3 8 [vR false 9 (nI p).toNatClampNeg, vI (nI row), vI (nI day), vI (c.1 7 0 1)] (c, m) (PQ I m (nI (l p row day)))) ∧
  (∀ c m, I c → ∀ p row day, p < n → row < 4 ^ n → 1 ≤ day → day ≤ 9 → Ctr 3 9 [vR false 9 (nI p).toNatClampNeg, vI (nI row), vI (nI day), vI (c.1 7 0 1)] (c, m) (PQ I m (nI (l p row day)))) ∧
  True
/-- the first number from p on, of k, that is bad -/
def fst (bad : Nat → Bool) : Nat → Nat → Option Nat
  | 0, _ => none
  | k + 1, p => if bad p then some p else fst bad k (p + 1)
def optI : Option Nat → Int32
  | none => -1
  | some k => nI k
def badA (l : Nat → Nat → Nat → Nat) (day row s p : Nat) : Bool := !s.testBit p && dd row p != l p row day
def gd (n : Nat) (l : Nat → Nat → Nat → Nat) (s row : Nat) : Bool := (fst (badA l 9 row s) n 0).isNone
/-- the i-th good row (i = -1: how many) -/
def mayF (g : Nat → Bool) (i : Int32) : Nat → Nat → Nat → Int32
  | 0, _, found => if i = -1 then nI found else -1
  | k + 1, row, found => if g row then (if nI found = i then nI row else mayF g i k (row + 1) (found + 1)) else mayF g i k (row + 1) found
theorem vp6 {k : Nat} (h : k < 6) : vp_in (nI k) 6 := vp_in_nI h (by decide)
section VIL
variable {n : Nat} {l : Nat → Nat → Nat → Nat} {I : Sd → Prop} {c m : Sd}
theorem c_has (hn : c.1 7 0 1 = nI n) (x : Int32) : Fn 1 48 [vR false 7 0, vI x] (c, m) (c, m) (some (vI (bi ((0 : Int32) ≤ x ∧ x ≤ nI n - 1)))) := by
  rw [← hn]
  exact ctr_ev 20 [] rfl rfl (iF (c_within _ _ _ _) (by decide) (And.intro zok_bi (And.intro rfl rfl)))
theorem c_rows (h6 : n ≤ 6) (hn : c.1 7 0 1 = nI n) : Fn 0 51 [vR false 7 0] (c, m) (c, m) (some (vI (nI (4 ^ n)))) := by
  have h : Fn 0 51 [vR false 7 0] (c, m) (c, m) (some (vI ((1 : Int32) <<< ((2 * c.1 7 0 1) &&& 31)))) := ctr_ev 20 [] rfl rfl (And.intro rfl rfl)
  rw [hn, nI_rows h6] at h
  exact h
theorem c_hasRow (h6 : n ≤ 6) (hn : c.1 7 0 1 = nI n) (x : Int32) : Fn 1 50 [vR false 7 0, vI x] (c, m) (c, m) (some (vI (bi ((0 : Int32) ≤ x ∧ x ≤ nI (4 ^ n) - 1)))) :=
  ctr_ev 20 [] rfl rfl (iF (c_rows h6 hn) (by decide) (iF (c_within _ _ _ _) (by decide) (And.intro zok_bi (And.intro rfl rfl))))
theorem c_hasAll (h6 : n ≤ 6) (hn : c.1 7 0 1 = nI n) (x : Int32) : Fn 1 49 [vR false 7 0, vI x] (c, m) (c, m) (some (vI (bi ((0 : Int32) ≤ x ∧ x ≤ nI (2 ^ n) - 1)))) := by
  have h : Fn 1 49 [vR false 7 0, vI x] (c, m) (c, m) (some (vI (bi ((0 : Int32) ≤ x ∧ x ≤ ((1 : Int32) <<< (c.1 7 0 1 &&& 31)) - 1)))) := ctr_ev 20 [] rfl rfl (iF (c_within _ _ _ _) (by decide) (And.intro zok_bi (And.intro rfl rfl)))
  rw [hn, nI_sets h6] at h
  exact h
theorem c_agrees (hH : CH n l I) (hc : I c) {row s : Nat} (hr : row < 4 ^ n) (hs : s < 2 ^ 31) : Ctr 4 56 [vR false 7 0, vI (nI row), vI (nI s)] (c, m) (PQ I m (bi (gd n l s row = true))) := by
  obtain ⟨⟨h1, h6⟩, hl, hn, -, hao, -⟩ := id hH
  have hr6 := pow4_le h6
  have key : ∀ (j k : Nat) (x : Int32) (c : Sd), k + j = n → x = nI k → I c → fst (badA l 9 row s) n 0 = fst (badA l 9 row s) j k → Go 4 56 none 2 [some (vR false 7 0), some (vI (nI row)), some (vI (nI s)), some (vI x)] [] (c, m) (PQ I m (bi (gd n l s row = true))) := by
    intro j
    induction j with
    | zero =>
      intro k x c hk hx hc hf
      refine go_ev 30 [2] (bT (c := c.1 7 0 1 ≤ x) (by rw [hn c hc, hx, nIle (by omega) (by omega)]; omega) ?_)
      refine And.intro rfl (Exists.intro c (And.intro rfl (And.intro hc ?_)))
      rw [bi_t]
      unfold gd
      rw [hf]
      rfl
    | succ j ih =>
      intro k x c hk hx hc hf
      subst hx
      refine go_ev 30 [2] (bF (c := c.1 7 0 1 ≤ nI k) (by rw [hn c hc, nIle (by omega) (by omega)]; omega) ?_)
      refine iF (c_isInN _ hs (by omega)) (by decide) ?_
      refine bI (fun h => ?_) (fun h => ?_)
      · rw [bi_0] at h
        refine dI (vp6 (by omega)) ?_
        refine iC (hao c m hc k row 9 (by omega) hr (by decide) (by decide)) (by decide) ?_
        rintro _ _ ⟨c', rfl, hc', rfl⟩
        refine iF (c_deedN _ (by omega) (by omega)) (by decide) ?_
        have := hl k row 9
        have := dd_lt row k
        refine bI (fun h2 => ?_) (fun h2 => ?_)
        · rw [nIeq (by omega) (by omega)] at h2
          refine ih (k + 1) _ c' (by omega) (nI_succ k).symm hc' ?_
          rw [hf]
          simp [fst, badA, h2]
        · rw [nIeq (by omega) (by omega)] at h2
          refine And.intro rfl (Exists.intro c' (And.intro rfl (And.intro hc' ?_)))
          rw [bi_f]
          unfold gd
          rw [hf]
          simp [fst, badA, h, Ne.symm h2]
      · have h : s.testBit k = true := by
          rw [bi_0] at h
          exact Classical.not_not.mp h
        refine ih (k + 1) _ c (by omega) (nI_succ k).symm hc ?_
        rw [hf]
        simp [fst, badA, h]
  refine ctr_ev 30 [2] rfl rfl ?_
  exact key n 0 0 c (by omega) rfl hc rfl
end VIL
end
section
/-! what the calls answer: one mathematical value for the class and the model -/
abbrev tN (x : Int32) : Nat := x.toNatClampNeg
abbrev inP (n : Nat) (x : Int32) : Prop := (0 : Int32) ≤ x ∧ x ≤ nI n - 1
abbrev inR (n : Nat) (x : Int32) : Prop := (0 : Int32) ≤ x ∧ x ≤ nI (4 ^ n) - 1
abbrev inS (n : Nat) (x : Int32) : Prop := (0 : Int32) ≤ x ∧ x ≤ nI (2 ^ n) - 1
abbrev inW (a b x : Int32) : Prop := a ≤ x ∧ x ≤ b
def sLets (n : Nat) (l : Nat → Nat → Nat → Nat) (p r d : Int32) : Int32 := if inP n p then (if inR n r ∧ inW 1 9 d then nI (l (tN p) (tN r) (tN d)) else -1002) else -1001
def sJudge (n : Nat) (l : Nat → Nat → Nat → Nat) (r d : Int32) : Int32 := if inR n r ∧ inW 1 9 d then optI (fst (badA l (tN d) (tN r) 0) n 0) else -1002
def sMay (n : Nat) (l : Nat → Nat → Nat → Nat) (s : Nat) (i : Int32) : Int32 := mayF (gd n l s) i (4 ^ n) 0 0
def sPossible (n : Nat) (l : Nat → Nat → Nat → Nat) (s i : Int32) : Int32 := if inS n s then sMay n l (tN s) i else -1001
def sTelling (n : Nat) (l : Nat → Nat → Nat → Nat) (s p : Int32) : Int32 := if inS n s ∧ inP n p then (if (tN s).testBit (tN p) = true then sMay n l (tN s) (-1) - sMay n l (tN s - 2 ^ tN p) (-1) else -1003) else -1001
def endF (g : Nat → Bool) (fur : Nat → Nat → Bool) : Nat → Nat → Option Nat → Option Nat
  | 0, _, b => b
  | k + 1, r, b => endF g fur k (r + 1) (if g r && (match b with
    | none => true
    | some q => fur r q) then some r else b)
def furS (n : Nat) (x : Int32) (r q : Nat) : Bool := if x = 0 then decide (sumK q n < sumK r n) else decide (sumK r n < sumK q n)
def sEnd (n : Nat) (l : Nat → Nat → Nat → Nat) (x : Int32) : Int32 := if inW 0 1 x then optI (endF (gd n l 0) (furS n x) (4 ^ n) 0 none) else -1002
def sureF (g : Nat → Bool) (p : Nat) : Nat → Nat → Option Nat → Option Nat
  | 0, _, b => b
  | k + 1, r, b => if g r then (if b = none ∨ b = some (dd r p) then sureF g p k (r + 1) (some (dd r p)) else none) else sureF g p k (r + 1) b
def sSure (n : Nat) (l : Nat → Nat → Nat → Nat) (s p : Int32) : Int32 := if inS n s ∧ inP n p then optI (sureF (gd n l (tN s)) (tN p) (4 ^ n) 0 none) else -1001
/-- who slips: the first other person whose one more lets less; the first row where one does -/
def slB (n : Nat) (l : Nat → Nat → Nat → Nat) (day p row : Nat) : Option Nat := fst (fun q => q != p && (decide (dd row q < 3) && decide (l p (row + 4 ^ q) day < l p row day))) n 0
def slR (n : Nat) (l : Nat → Nat → Nat → Nat) (day p : Nat) : Option Nat := fst (fun row => decide (dd row p = 0) && (slB n l day p row).isSome) (4 ^ n) 0
def sGrows (n : Nat) (l : Nat → Nat → Nat → Nat) (p d x : Int32) : Int32 := if inP n p then (if inW 1 9 d ∧ inW (-1) 1 x then (match slR n l (tN d) (tN p) with
    | none => if x = -1 then 1 else -1
    | some row => if x = -1 then 0 else if x = 0 then nI row else optI (slB n l (tN d) (tN p) row)) else -1002) else -1001
def cntB (f : Nat → Bool) : Nat → Nat
  | 0 => 0
  | k + 1 => cntB f k + (if f k then 1 else 0)
def growN (n : Nat) (l : Nat → Nat → Nat → Nat) : Nat := cntB (fun p => (slR n l 9 p).isNone) n
def hgOn (l : Nat → Nat → Nat → Nat) (p q row : Nat) : Bool := (fst (fun d => l p (wdd row q d) 9 != l p row 9) 4 0).isSome
def hgF (l : Nat → Nat → Nat → Nat) (p row : Nat) : Nat → Nat
  | 0 => 0
  | k + 1 => hgF l p row k + (if k != p && hgOn l p k row then 2 ^ k else 0)
def sHangs (n : Nat) (l : Nat → Nat → Nat → Nat) (p r : Int32) : Int32 := if inP n p then (if inR n r then nI (hgF l (tN p) (tN r) n) else -1002) else -1001
/-- a row out of digits -/
def digs (f : Nat → Nat) : Nat → Nat
  | 0 => 0
  | k + 1 => digs f k + f k * 4 ^ k
def nday (n : Nat) (l : Nat → Nat → Nat → Nat) (row day : Nat) : Nat := digs (fun p => max (dd row p) (l p row day)) n
def byD (n : Nat) (l : Nat → Nat → Nat → Nat) : Nat → Nat
  | 0 => 0
  | d + 1 => nday n l (byD n l d) (d + 1)
def sByDay (n : Nat) (l : Nat → Nat → Nat → Nat) (d : Int32) : Int32 := if inW 0 9 d then nI (byD n l (tN d)) else -1002
def sDares (n : Nat) (l : Nat → Nat → Nat → Nat) (p : Int32) : Int32 := if inP n p then optI (fst (fun d => decide (0 < dd (byD n l d) (tN p))) 9 1) else -1001
/-! facts of them -/
theorem digs_lt {f : Nat → Nat} (h : ∀ p, f p < 4) (k : Nat) : digs f k < 4 ^ k := by
  induction k with
  | zero => exact Nat.one_pos
  | succ k ih =>
    have h1 := h k
    have h2 : f k * 4 ^ k ≤ 3 * 4 ^ k := Nat.mul_le_mul_right _ (by omega)
    simp only [digs, Nat.pow_succ]
    omega
theorem dd_mix {S R k : Nat} (hS : S < 4 ^ k) : dd (S + R * 4 ^ k) k = R % 4 := by
  unfold dd
  rw [Nat.add_mul_div_right _ _ (pow4_pos k), Nat.div_eq_of_lt hS, Nat.zero_add]
theorem mix_step {S row k d : Nat} (hS : S < 4 ^ k) : wdd (S + row / 4 ^ k * 4 ^ k) k d = S + d * 4 ^ k + row / 4 ^ (k + 1) * 4 ^ (k + 1) := by
  unfold wdd
  rw [dd_mix hS, Nat.pow_succ, ← Nat.div_div_eq_div_mul]
  generalize row / 4 ^ k = R
  generalize 4 ^ k = P
  have h1 : R * P = (R % 4) * P + R / 4 * (P * 4) := by
    have h2 := Nat.div_add_mod R 4
    calc R * P = (4 * (R / 4) + R % 4) * P := by rw [h2]
      _ = R % 4 * P + R / 4 * (P * 4) := by
        rw [Nat.add_mul, Nat.add_comm]
        congr 1
        rw [Nat.mul_comm 4 (R / 4), Nat.mul_assoc, Nat.mul_comm 4 P]
  omega
theorem dd_out {row n p : Nat} (hr : row < 4 ^ n) (hp : n ≤ p) : dd row p = 0 := by
  unfold dd
  rw [Nat.div_eq_of_lt (Nat.lt_of_lt_of_le hr (Nat.pow_le_pow_right (by decide) hp))]
theorem sumK_n {row n : Nat} (hr : row < 4 ^ n) : ∀ k, n ≤ k → sumK row k = sumK row n := by
  intro k
  induction k with
  | zero => intro h; rw [Nat.le_zero.mp h]
  | succ k ih =>
    intro h
    by_cases hk : n = k + 1
    · rw [hk]
    · simp only [sumK]
      rw [ih (by omega), dd_out hr (by omega)]
      rfl
theorem up_lt {row n q : Nat} (hr : row < 4 ^ n) (hq : q < n) (hd : dd row q < 3) : row + 4 ^ q < 4 ^ n := by
  obtain ⟨j, rfl⟩ : ∃ j, n = q + 1 + j := ⟨n - q - 1, by omega⟩
  have e : 4 ^ (q + 1 + j) = 4 ^ q * (4 * 4 ^ j) := by rw [Nat.pow_add, Nat.pow_succ, Nat.mul_assoc]
  rw [e] at hr ⊢
  unfold dd at hd
  have hP := pow4_pos q
  have h1 := Nat.div_add_mod row (4 ^ q)
  have h2 := Nat.mod_lt row hP
  have h3 : row / 4 ^ q < 4 * 4 ^ j := Nat.div_lt_of_lt_mul hr
  have h4 : row / 4 ^ q + 1 < 4 * 4 ^ j := by omega
  have h5 : 4 ^ q * (row / 4 ^ q + 1 + 1) ≤ 4 ^ q * (4 * 4 ^ j) := Nat.mul_le_mul_left _ h4
  rw [Nat.mul_add, Nat.mul_add, Nat.mul_one] at h5
  omega
theorem wdd_lt {row n q d : Nat} (hr : row < 4 ^ n) (hq : q < n) (hd : d < 4) : wdd row q d < 4 ^ n := by
  obtain ⟨j, rfl⟩ : ∃ j, n = q + 1 + j := ⟨n - q - 1, by omega⟩
  have e : 4 ^ (q + 1 + j) = 4 ^ q * (4 * 4 ^ j) := by rw [Nat.pow_add, Nat.pow_succ, Nat.mul_assoc]
  rw [e] at hr ⊢
  unfold wdd dd
  have hP := pow4_pos q
  have h1 := Nat.div_add_mod row (4 ^ q)
  have h2 := Nat.mod_lt row hP
  have h3 : row / 4 ^ q < 4 * 4 ^ j := Nat.div_lt_of_lt_mul hr
  generalize row / 4 ^ q = R at h1 h3 ⊢
  have h4 : R / 4 * 4 + d + 1 ≤ 4 * 4 ^ j := by omega
  have h5 : 4 ^ q * (R / 4 * 4 + d + 1) ≤ 4 ^ q * (4 * 4 ^ j) := Nat.mul_le_mul_left _ h4
  have h6 : 4 ^ q * R = R % 4 * 4 ^ q + 4 ^ q * (R / 4 * 4) := by
    have h7 := Nat.div_add_mod R 4
    calc 4 ^ q * R = 4 ^ q * (R % 4 + R / 4 * 4) := by congr 1; omega
      _ = R % 4 * 4 ^ q + 4 ^ q * (R / 4 * 4) := by rw [Nat.mul_add, Nat.mul_comm (4 ^ q) (R % 4)]
  rw [Nat.mul_add, Nat.mul_add, Nat.mul_one] at h5
  have h8 : 4 ^ q * d = d * 4 ^ q := Nat.mul_comm _ _
  omega
theorem clampP {n : Nat} {x : Int32} (h1 : 1 ≤ n) (hn : n < 2 ^ 31) (h : (0 : Int32) ≤ x ∧ x ≤ nI n - 1) : tN x < n ∧ x = nI (tN x) := by
  obtain ⟨k, hk, rfl⟩ := (in_iff h1 hn).mp h
  rw [show tN (nI k) = k from nI_clamp (by omega)]
  exact ⟨hk, rfl⟩
theorem clampW {x : Int32} {a b : Nat} (hb : b + 1 < 2 ^ 31) (h : nI a ≤ x ∧ x ≤ nI b) (ha : a ≤ b) : a ≤ tN x ∧ tN x ≤ b ∧ x = nI (tN x) := by
  have h0 : (0 : Int32) ≤ x := Int32.le_trans (nI_pos' (by omega)) h.1
  obtain ⟨k, hk, rfl⟩ := i32_of hb h0 h.2
  rw [show tN (nI k) = k from nI_clamp (by omega)]
  exact ⟨(nIle (by omega) (by omega)).mp h.1, hk, rfl⟩
theorem mayF_m1 {g : Nat → Bool} (j row found : Nat) (h : found + j < 2 ^ 31) : mayF g (-1) (j + 1) row found = if g row then mayF g (-1) j (row + 1) (found + 1) else mayF g (-1) j (row + 1) found := by
  have : ¬ nI found = -1 := nI_m1 (by omega)
  simp only [mayF, this, if_false]
theorem mayF_low {g : Nat → Bool} {i : Int32} (hi : i ≠ -1) : ∀ (j row found : Nat), found + j < 2 ^ 31 → i < nI found → mayF g i j row found = -1 := by
  intro j
  induction j with
  | zero =>
    intro row found _ _
    simp only [mayF, if_neg hi]
  | succ j ih =>
    intro row found hb hlt
    have hne : ¬ nI found = i := fun z => by
      rw [z] at hlt
      exact Int32.lt_irrefl hlt
    have hlt2 : i < nI (found + 1) := Int32.lt_trans hlt ((nIlt (by omega) (by omega)).mpr (by omega))
    simp only [mayF, if_neg hne]
    split
    · exact ih _ _ (by omega) hlt2
    · exact ih _ _ (by omega) hlt
end
section
/-! the class's calls over its persons' terms, first part -/
section CA1
variable {n : Nat} {l : Nat → Nat → Nat → Nat} {I : Sd → Prop} {c m : Sd}
theorem pqi {I : Sd → Prop} {c m : Sd} {r r' : Int32} (hc : I c) (h : r' = r) : PQ I m r (c, m) (some (vI r')) := ⟨c, rfl, hc, by rw [h]⟩
theorem c_possibles (hH : CH n l I) (hc : I c) {s : Nat} (hs : s < 2 ^ 31) : Ctr 5 57 [vR false 7 0, vI (nI s)] (c, m) (PQ I m (sMay n l s (-1))) := by
  obtain ⟨⟨h1, h6⟩, hl, hn, -⟩ := id hH
  have hr6 := pow4_le h6
  have key : ∀ (j k f : Nat) (x a : Int32) (c : Sd), k + j = 4 ^ n → x = nI k → a = nI f → f ≤ k → I c → sMay n l s (-1) = mayF (gd n l s) (-1) j k f → Go 5 57 none 4 [some (vR false 7 0), some (vI (nI s)), some (vI a), some (vI x)] [] (c, m) (PQ I m (sMay n l s (-1))) := by
    intro j
    induction j with
    | zero =>
      intro k f x a c hk hx ha hfk hc he
      refine go_ev 30 [4] (iF (c_rows h6 (hn c hc)) (by decide) (bT (by rw [hx, nIle (by omega) (by omega)]; omega) ?_))
      refine pqi hc ?_
      rw [he, ha]
      rfl
    | succ j ih =>
      intro k f x a c hk hx ha hfk hc he
      subst hx ha
      refine go_ev 30 [4] (iF (c_rows h6 (hn c hc)) (by decide) (bF (by rw [nIle (by omega) (by omega)]; omega) ?_))
      refine iC (c_agrees hH hc (row := k) (by omega) hs) (by decide) ?_
      rintro _ _ ⟨c', rfl, hc', rfl⟩
      rw [mayF_m1 _ _ _ (by omega)] at he
      refine bI (fun h => ?_) (fun h => ?_)
      · rw [bi_0] at h
        rw [if_neg h] at he
        exact ih (k + 1) f _ _ c' (by omega) (nI_succ k).symm rfl (by omega) hc' he
      · rw [bi_0, Classical.not_not] at h
        rw [if_pos h] at he
        exact ih (k + 1) (f + 1) _ _ c' (by omega) (nI_succ k).symm (nI_succ f).symm (by omega) hc' he
  refine ctr_ev 30 [4] rfl rfl ?_
  exact key (4 ^ n) 0 0 0 0 c (by omega) rfl rfl (by omega) hc rfl
theorem c_possibleAt (hH : CH n l I) (hc : I c) {s : Nat} (hs : s < 2 ^ 31) {i : Int32} (hi : i ≠ -1) : Ctr 5 58 [vR false 7 0, vI (nI s), vI i] (c, m) (PQ I m (sMay n l s i)) := by
  obtain ⟨⟨h1, h6⟩, hl, hn, -⟩ := id hH
  have hr6 := pow4_le h6
  have key : ∀ (j k f : Nat) (x a : Int32) (c : Sd), k + j = 4 ^ n → x = nI k → a = nI f → f ≤ k → I c → sMay n l s i = mayF (gd n l s) i j k f → Go 5 58 none 5 [some (vR false 7 0), some (vI (nI s)), some (vI i), some (vI a), some (vI x)] [] (c, m) (PQ I m (sMay n l s i)) := by
    intro j
    induction j with
    | zero =>
      intro k f x a c hk hx ha hfk hc he
      refine go_ev 30 [5] (iF (c_rows h6 (hn c hc)) (by decide) (bT (by rw [hx, nIle (by omega) (by omega)]; omega) ?_))
      refine pqi hc ?_
      rw [he]
      simp only [mayF, if_neg hi]
    | succ j ih =>
      intro k f x a c hk hx ha hfk hc he
      subst hx ha
      refine go_ev 30 [5] (iF (c_rows h6 (hn c hc)) (by decide) (bF (by rw [nIle (by omega) (by omega)]; omega) ?_))
      refine bI (fun h => ?_) (fun h => ?_)
      · refine pqi hc ?_
        rw [he, mayF_low hi _ _ _ (by omega) h]
      refine iC (c_agrees hH hc (row := k) (by omega) hs) (by decide) ?_
      rintro _ _ ⟨c', rfl, hc', rfl⟩
      simp only [mayF] at he
      refine bI (fun h => ?_) (fun h => ?_)
      · rw [bi_0] at h
        rw [if_neg h] at he
        exact ih (k + 1) f _ _ c' (by omega) (nI_succ k).symm rfl (by omega) hc' he
      · rw [bi_0, Classical.not_not] at h
        rw [if_pos h] at he
        refine bI (fun h2 => ?_) (fun h2 => ?_)
        · rw [if_pos h2] at he
          exact pqi hc' he.symm
        · rw [if_neg h2] at he
          exact ih (k + 1) (f + 1) _ _ c' (by omega) (nI_succ k).symm (nI_succ f).symm (by omega) hc' he
  refine ctr_ev 30 [5] rfl rfl ?_
  exact key (4 ^ n) 0 0 0 0 c (by omega) rfl rfl (by omega) hc rfl
theorem c_settled (hH : CH n l I) (hc : I c) (i : Int32) : Ctr 6 70 [vR false 0 0, vI i] (c, m) (PQ I m (sMay n l 0 i)) := by
  refine ctr_ev 30 [] rfl rfl (bI (fun h => ?_) (fun h => ?_))
  · subst h
    refine iC (c_possibles hH hc (s := 0) (by decide)) (by decide) ?_
    rintro _ _ ⟨c', rfl, hc', rfl⟩
    exact pqi hc' rfl
  · refine iC (c_possibleAt hH hc (s := 0) (by decide) h) (by decide) ?_
    rintro _ _ ⟨c', rfl, hc', rfl⟩
    exact pqi hc' rfl
theorem pow2_le {n : Nat} (h : n ≤ 6) : 2 ^ n ≤ 64 := by
  have := Nat.pow_le_pow_right (n := 2) (by decide) h
  simpa using this
theorem pow2_pos (n : Nat) : 1 ≤ 2 ^ n := Nat.pow_pos (by decide)
theorem c_possible (hH : CH n l I) (hc : I c) (s i : Int32) : Ctr 6 82 [vR false 0 0, vI s, vI i] (c, m) (PQ I m (sPossible n l s i)) := by
  obtain ⟨⟨h1, h6⟩, hl, hn, -⟩ := id hH
  have h64 := pow2_le h6
  refine ctr_ev 40 [] rfl rfl (iF (c_hasAll h6 (hn c hc) s) (by decide) (bI (fun h => ?_) (fun h => ?_)))
  · rw [bi_0] at h
    refine pqi hc ?_
    rw [sPossible, if_neg h]
  · rw [bi_0, Classical.not_not] at h
    obtain ⟨hk, he⟩ := clampP (pow2_pos n) (by omega) h
    rw [sPossible, if_pos h]
    generalize tN s = k at hk he ⊢
    subst he
    refine bI (fun hi => ?_) (fun hi => ?_)
    · subst hi
      refine iC (c_possibles hH hc (s := k) (by omega)) (by decide) ?_
      rintro _ _ ⟨c', rfl, hc', rfl⟩
      exact pqi hc' rfl
    · refine iC (c_possibleAt hH hc (s := k) (by omega) hi) (by decide) ?_
      rintro _ _ ⟨c', rfl, hc', rfl⟩
      exact pqi hc' rfl
theorem xor_bit : ∀ s, s < 64 → ∀ p, p < 6 → s.testBit p = true → nI s ^^^ ((1 : Int32) <<< (nI p &&& 31)) = nI (s - 2 ^ p) := by decide +kernel
theorem c_telling (hH : CH n l I) (hc : I c) (s p : Int32) : Ctr 6 84 [vR false 0 0, vI s, vI p] (c, m) (PQ I m (sTelling n l s p)) := by
  obtain ⟨⟨h1, h6⟩, hl, hn, -⟩ := id hH
  have h64 := pow2_le h6
  refine ctr_ev 60 [] rfl rfl (iF (c_hasAll h6 (hn c hc) s) (by decide) (bI (fun h => ?_) (fun h => ?_)))
  · rw [bi_0] at h
    refine pqi hc ?_
    rw [sTelling, if_neg (fun z => h z.1)]
  · rw [bi_0, Classical.not_not] at h
    refine iF (c_has (hn c hc) p) (by decide) (bI (fun hp => ?_) (fun hp => ?_))
    · rw [bi_0] at hp
      refine pqi hc ?_
      rw [sTelling, if_neg (fun z => hp z.2)]
    · rw [bi_0, Classical.not_not] at hp
      rw [sTelling, if_pos ⟨h, hp⟩]
      obtain ⟨hk, he⟩ := clampP (pow2_pos n) (by omega) h
      obtain ⟨hk2, he2⟩ := clampP h1 (by omega) hp
      generalize tN s = k at hk he ⊢
      generalize tN p = q at hk2 he2 ⊢
      subst he he2
      refine iF (c_isInN _ (by omega) (by omega)) (by decide) (bI (fun hb => ?_) (fun hb => ?_))
      · rw [bi_0] at hb
        refine pqi hc ?_
        rw [if_neg hb]
      · rw [bi_0, Classical.not_not] at hb
        rw [if_pos hb]
        refine iC (c_possibles hH hc (s := k) (by omega)) (by decide) ?_
        rintro _ _ ⟨c', rfl, hc', rfl⟩
        have hx := c_possibles (m := m) hH hc' (s := k - 2 ^ q) (Nat.lt_of_le_of_lt (Nat.sub_le _ _) (by omega))
        rw [← xor_bit k (by omega) q (by omega) hb] at hx
        refine iC hx (by decide) ?_
        rintro _ _ ⟨c2, rfl, hc2, rfl⟩
        exact pqi hc2 rfl
theorem c_lets (hH : CH n l I) (hc : I c) (p r d : Int32) : Ctr 6 66 [vR false 0 0, vI p, vI r, vI d] (c, m) (PQ I m (sLets n l p r d)) := by
  obtain ⟨⟨h1, h6⟩, hl, hn, hal, -⟩ := id hH
  have hr6 := pow4_le h6
  refine ctr_ev 60 [] rfl rfl (iF (c_has (hn c hc) p) (by decide) (bI (fun hp => ?_) (fun hp => ?_)))
  · rw [bi_0] at hp
    refine pqi hc ?_
    rw [sLets, if_neg hp]
  · rw [bi_0, Classical.not_not] at hp
    rw [sLets, if_pos hp]
    refine iF (c_hasRow h6 (hn c hc) r) (by decide) (bI (fun hr => ?_) (fun hr => ?_))
    · rw [bi_0] at hr
      refine pqi hc ?_
      rw [if_neg (fun z => hr z.1)]
    · rw [bi_0, Classical.not_not] at hr
      refine iF (c_within _ d 1 9) (by decide) (bI (fun hd => ?_) (fun hd => ?_))
      · rw [bi_0] at hd
        refine pqi hc ?_
        rw [if_neg (fun z => hd z.2)]
      · rw [bi_0, Classical.not_not] at hd
        rw [if_pos ⟨hr, hd⟩]
        obtain ⟨hk, he⟩ := clampP h1 (by omega) hp
        obtain ⟨hk2, he2⟩ := clampP (pow4_pos n) (by omega) hr
        obtain ⟨hk3, hk4, he3⟩ := clampW (a := 1) (b := 9) (by decide) hd (by decide)
        generalize tN p = q at hk he ⊢
        generalize tN r = row at hk2 he2 ⊢
        generalize tN d = day at hk3 hk4 he3 ⊢
        subst he he2 he3
        refine dI (vp6 (by omega)) ?_
        refine iC (hal c m hc q row day hk hk2 hk3 hk4) (by decide) ?_
        rintro _ _ ⟨c2, rfl, hc2, rfl⟩
        exact pqi hc2 rfl
theorem c_judge (hH : CH n l I) (hc : I c) (r d : Int32) : Ctr 6 69 [vR false 0 0, vI r, vI d] (c, m) (PQ I m (sJudge n l r d)) := by
  obtain ⟨⟨h1, h6⟩, hl, hn, hal, -⟩ := id hH
  have hr6 := pow4_le h6
  refine ctr_ev 60 [27] rfl rfl (iF (c_hasRow h6 (hn c hc) r) (by decide) (bI (fun hr => ?_) (fun hr => ?_)))
  · rw [bi_0] at hr
    refine pqi hc ?_
    rw [sJudge, if_neg (fun z => hr z.1)]
  · rw [bi_0, Classical.not_not] at hr
    refine iF (c_within _ d 1 9) (by decide) (bI (fun hd => ?_) (fun hd => ?_))
    · rw [bi_0] at hd
      refine pqi hc ?_
      rw [sJudge, if_neg (fun z => hd z.2)]
    · rw [bi_0, Classical.not_not] at hd
      rw [sJudge, if_pos ⟨hr, hd⟩]
      obtain ⟨hk2, he2⟩ := clampP (pow4_pos n) (by omega) hr
      obtain ⟨hk3, hk4, he3⟩ := clampW (a := 1) (b := 9) (by decide) hd (by decide)
      generalize tN r = row at hk2 he2 ⊢
      generalize tN d = day at hk3 hk4 he3 ⊢
      subst he2 he3
      have key : ∀ (j k : Nat) (x : Int32) (c : Sd), k + j = n → x = nI k → I c → fst (badA l day row 0) n 0 = fst (badA l day row 0) j k → Go 6 69 none 27 [some (vR false 0 0), some (vI (nI row)), some (vI (nI day)), some (vI x)] [] (c, m) (PQ I m (optI (fst (badA l day row 0) n 0))) := by
        intro j
        induction j with
        | zero =>
          intro k x c hk hx hc hf
          refine go_ev 40 [27] (bT (c := c.1 7 0 1 ≤ x) (by rw [hn c hc, hx, nIle (by omega) (by omega)]; omega) ?_)
          refine pqi hc ?_
          rw [hf]
          rfl
        | succ j ih =>
          intro k x c hk hx hc hf
          subst hx
          refine go_ev 40 [27] (bF (c := c.1 7 0 1 ≤ nI k) (by rw [hn c hc, nIle (by omega) (by omega)]; omega) ?_)
          refine dI (vp6 (by omega)) ?_
          refine iC (hal c m hc k row day (by omega) hk2 hk3 hk4) (by decide) ?_
          rintro _ _ ⟨c2, rfl, hc2, rfl⟩
          refine iF (c_deedN _ (by omega) (by omega)) (by decide) ?_
          have := hl k row day
          have := dd_lt row k
          refine bI (fun h2 => ?_) (fun h2 => ?_)
          · rw [nIeq (by omega) (by omega)] at h2
            refine ih (k + 1) _ c2 (by omega) (nI_succ k).symm hc2 ?_
            rw [hf]
            simp [fst, badA, h2]
          · rw [nIeq (by omega) (by omega)] at h2
            refine pqi hc2 ?_
            rw [hf]
            simp [fst, badA, Ne.symm h2, optI]
      exact key n 0 0 c (by omega) rfl hc rfl
end CA1
end
section
/-! the class's calls over its persons' terms, second part -/
section CA2
variable {n : Nat} {l : Nat → Nat → Nat → Nat} {I : Sd → Prop} {c m : Sd}
theorem c_max (w : Wd) (a b : Int32) : Fn 0 165 [vI a, vI b] w w (some (vI (if a < b then b else a))) := by
  refine ctr_ev 20 [] rfl rfl (bI (fun h => ?_) (fun h => ?_))
  · exact And.intro rfl (by rw [if_pos h])
  · exact And.intro rfl (by rw [if_neg h])
theorem c_maxN (w : Wd) {a b : Nat} (ha : a < 2 ^ 31) (hb : b < 2 ^ 31) : Fn 0 165 [vI (nI a), vI (nI b)] w w (some (vI (nI (max a b)))) := by
  have h := c_max w (nI a) (nI b)
  rw [show (if nI a < nI b then nI b else nI a) = nI (max a b) from by
    by_cases h : a < b
    · rw [if_pos ((nIlt ha hb).mpr h), Nat.max_eq_right (by omega)]
    · rw [if_neg (fun z => h ((nIlt ha hb).mp z)), Nat.max_eq_left (by omega)]] at h
  exact h
theorem optI_none {o : Option Nat} (h : ∀ k, o = some k → k < 2 ^ 31) : optI o = -1 ↔ o = none := by
  cases o with
  | none => exact ⟨fun _ => rfl, fun _ => rfl⟩
  | some k => exact ⟨fun z => absurd z (nI_m1 (h k rfl)), fun z => by cases z⟩
theorem fst_lt {bad : Nat → Bool} : ∀ (j k q : Nat), fst bad j k = some q → k ≤ q ∧ q < k + j ∧ bad q = true := by
  intro j
  induction j with
  | zero => intro k q h; cases h
  | succ j ih =>
    intro k q h
    simp only [fst] at h
    split at h
    · rename_i hb
      cases h
      exact ⟨Nat.le_refl _, by omega, hb⟩
    · obtain ⟨h1, h2, h3⟩ := ih (k + 1) q h
      exact ⟨by omega, by omega, h3⟩
theorem fst_no {bad : Nat → Bool} : ∀ (j k : Nat), (∀ q, k ≤ q → q < k + j → bad q = false) → fst bad j k = none := by
  intro j
  induction j with
  | zero => intro k _; rfl
  | succ j ih =>
    intro k h
    simp only [fst]
    rw [h k (Nat.le_refl _) (by omega)]
    exact ih (k + 1) (fun q h1 h2 => h q (by omega) (by omega))
theorem c_slipBy (hH : CH n l I) (hc : I c) {p row day : Nat} (hp : p < n) (hr : row < 4 ^ n) (hd1 : 1 ≤ day) (hd9 : day ≤ 9) : Ctr 4 55 [vR false 7 0, vI (nI p), vI (nI row), vI (nI day)] (c, m) (PQ I m (optI (slB n l day p row))) := by
  obtain ⟨⟨h1, h6⟩, hl, hn, -, hao, -⟩ := id hH
  have hr6 := pow4_le h6
  have hnow := hl p row day
  have key : ∀ (j k : Nat) (x : Int32) (c : Sd), k + j = n → x = nI k → I c → slB n l day p row = fst (fun q => q != p && (decide (dd row q < 3) && decide (l p (row + 4 ^ q) day < l p row day))) j k → Go 4 55 none 20 [some (vR false 7 0), some (vI (nI p)), some (vI (nI row)), some (vI (nI day)), some (vI (nI (l p row day))), some (vI x)] [] (c, m) (PQ I m (optI (slB n l day p row))) := by
    intro j
    induction j with
    | zero =>
      intro k x c hk hx hc hf
      refine go_ev 40 [20] (bT (c := c.1 7 0 1 ≤ x) (by rw [hn c hc, hx, nIle (by omega) (by omega)]; omega) ?_)
      refine pqi hc ?_
      rw [hf]
      rfl
    | succ j ih =>
      intro k x c hk hx hc hf
      subst hx
      have hdd := dd_lt row k
      refine go_ev 60 [20] (bF (c := c.1 7 0 1 ≤ nI k) (by rw [hn c hc, nIle (by omega) (by omega)]; omega) ?_)
      refine bI (fun h0 => ?_) (fun h0 => ?_)
      · refine pqi hc ?_
        have h00 : l p row day = 0 := by
          rw [show (0 : Int32) = nI 0 from rfl, nIle (by omega) (by decide)] at h0
          omega
        rw [hf, fst_no _ _ (fun q _ _ => by simp [h00])]
        rfl
      · refine bI (fun h2 => ?_) (fun h2 => ?_)
        · rw [nIeq (by omega) (by omega)] at h2
          refine ih (k + 1) _ c (by omega) (nI_succ k).symm hc ?_
          rw [hf]
          simp [fst, h2]
        · rw [nIeq (by omega) (by omega)] at h2
          refine iF (c_deedN _ (by omega) (by omega)) (by decide) ?_
          refine bI (fun h3 => ?_) (fun h3 => ?_)
          · rw [show (3 : Int32) = nI 3 from rfl, nIle (by decide) (by omega)] at h3
            refine ih (k + 1) _ c (by omega) (nI_succ k).symm hc ?_
            rw [hf]
            simp [fst, Nat.not_lt.mpr h3]
          · rw [show (3 : Int32) = nI 3 from rfl, nIle (by decide) (by omega)] at h3
            refine dI (vp6 (by omega)) ?_
            have hup := up_lt hr (q := k) (by omega) (by omega)
            have hx := hao c m hc p (row + 4 ^ k) day hp hup hd1 hd9
            rw [← nIadd, ← nI_rows (n := k) (by omega)] at hx
            refine iC hx (by decide) ?_
            rintro _ _ ⟨c2, rfl, hc2, rfl⟩
            have := hl p (row + 4 ^ k) day
            refine bI (fun h4 => ?_) (fun h4 => ?_)
            · rw [nIle (by omega) (by omega)] at h4
              refine ih (k + 1) _ c2 (by omega) (nI_succ k).symm hc2 ?_
              rw [hf]
              simp [fst, Nat.not_lt.mpr h4]
            · rw [nIle (by omega) (by omega)] at h4
              refine pqi hc2 ?_
              rw [hf]
              simp only [fst]
              rw [if_pos (by simp [h2]; omega)]
              rfl
  refine ctr_ev 40 [20] rfl rfl (dI (vp6 (by omega)) ?_)
  refine iC (hao c m hc p row day hp hr hd1 hd9) (by decide) ?_
  rintro _ _ ⟨c2, rfl, hc2, rfl⟩
  exact key n 0 0 c2 (by omega) rfl hc2 rfl
theorem slB_lt {n : Nat} {l : Nat → Nat → Nat → Nat} {day p row k : Nat} (h : slB n l day p row = some k) : k < n := by
  have := fst_lt _ _ _ h
  omega
theorem slR_lt {n : Nat} {l : Nat → Nat → Nat → Nat} {day p k : Nat} (h : slR n l day p = some k) : k < 4 ^ n := by
  have := fst_lt _ _ _ h
  omega
theorem c_slipRow (hH : CH n l I) (hc : I c) {p day : Nat} (hp : p < n) (hd1 : 1 ≤ day) (hd9 : day ≤ 9) : Ctr 5 54 [vR false 7 0, vI (nI p), vI (nI day)] (c, m) (PQ I m (optI (slR n l day p))) := by
  obtain ⟨⟨h1, h6⟩, hl, hn, -, hao, -⟩ := id hH
  have hr6 := pow4_le h6
  have key : ∀ (j k : Nat) (x : Int32) (c : Sd), k + j = 4 ^ n → x = nI k → I c → slR n l day p = fst (fun row => decide (dd row p = 0) && (slB n l day p row).isSome) j k → Go 5 54 none 2 [some (vR false 7 0), some (vI (nI p)), some (vI (nI day)), some (vI x)] [] (c, m) (PQ I m (optI (slR n l day p))) := by
    intro j
    induction j with
    | zero =>
      intro k x c hk hx hc hf
      refine go_ev 40 [2] (iF (c_rows h6 (hn c hc)) (by decide) (bT (by rw [hx, nIle (by omega) (by omega)]; omega) ?_))
      refine pqi hc ?_
      rw [hf]
      rfl
    | succ j ih =>
      intro k x c hk hx hc hf
      subst hx
      have hdd := dd_lt k p
      refine go_ev 40 [2] (iF (c_rows h6 (hn c hc)) (by decide) (bF (by rw [nIle (by omega) (by omega)]; omega) ?_))
      refine iF (c_deedN _ (by omega) (by omega)) (by decide) ?_
      refine bI (fun h0 => ?_) (fun h0 => ?_)
      · rw [show (0 : Int32) = nI 0 from rfl, nIeq (by omega) (by decide)] at h0
        refine iC (c_slipBy hH hc (row := k) hp (by omega) hd1 hd9) (by decide) ?_
        rintro _ _ ⟨c2, rfl, hc2, rfl⟩
        refine bI (fun h2 => ?_) (fun h2 => ?_)
        · rw [optI_none (fun q hq => by have := slB_lt hq; omega)] at h2
          refine ih (k + 1) _ c2 (by omega) (nI_succ k).symm hc2 ?_
          rw [hf]
          simp [fst, h2]
        · rw [optI_none (fun q hq => by have := slB_lt hq; omega)] at h2
          refine pqi hc2 ?_
          rw [hf]
          simp only [fst]
          rw [if_pos (by simp [h0, Option.isSome_iff_ne_none.mpr h2])]
          rfl
      · rw [show (0 : Int32) = nI 0 from rfl, nIeq (by omega) (by decide)] at h0
        refine ih (k + 1) _ c (by omega) (nI_succ k).symm hc ?_
        rw [hf]
        simp [fst, h0]
  refine ctr_ev 40 [2] rfl rfl ?_
  exact key (4 ^ n) 0 0 c (by omega) rfl hc rfl
theorem c_growing (hH : CH n l I) (hc : I c) : Ctr 6 53 [vR false 7 0, vI 9] (c, m) (PQ I m (nI (growN n l))) := by
  obtain ⟨⟨h1, h6⟩, hl, hn, -, hao, -⟩ := id hH
  have hr6 := pow4_le h6
  have key : ∀ (j k : Nat) (x a : Int32) (c : Sd), k + j = n → x = nI k → a = nI (cntB (fun p => (slR n l 9 p).isNone) k) → I c → Go 6 53 none 4 [some (vR false 7 0), some (vI 9), some (vI a), some (vI x)] [] (c, m) (PQ I m (nI (growN n l))) := by
    intro j
    induction j with
    | zero =>
      intro k x a c hk hx ha hc
      refine go_ev 40 [4] (bT (c := c.1 7 0 1 ≤ x) (by rw [hn c hc, hx, nIle (by omega) (by omega)]; omega) ?_)
      refine pqi hc ?_
      rw [ha, show k = n by omega]
      rfl
    | succ j ih =>
      intro k x a c hk hx ha hc
      subst hx
      refine go_ev 40 [4] (bF (c := c.1 7 0 1 ≤ nI k) (by rw [hn c hc, nIle (by omega) (by omega)]; omega) ?_)
      refine iC (c_slipRow hH hc (p := k) (day := 9) (by omega) (by decide) (by decide)) (by decide) ?_
      rintro _ _ ⟨c2, rfl, hc2, rfl⟩
      refine bI (fun h2 => ?_) (fun h2 => ?_)
      · rw [optI_none (fun q hq => by have := slR_lt hq; omega)] at h2
        refine ih (k + 1) _ _ c2 (by omega) (nI_succ k).symm ?_ hc2
        rw [ha]
        simp [cntB, h2, nI_succ]
      · rw [optI_none (fun q hq => by have := slR_lt hq; omega)] at h2
        refine ih (k + 1) _ _ c2 (by omega) (nI_succ k).symm ?_ hc2
        rw [ha]
        simp [cntB, h2]
  refine ctr_ev 40 [4] rfl rfl ?_
  exact key n 0 0 0 c (by omega) rfl rfl hc
theorem c_grows (hH : CH n l I) (hc : I c) (p d x : Int32) : Ctr 6 68 [vR false 0 0, vI p, vI d, vI x] (c, m) (PQ I m (sGrows n l p d x)) := by
  obtain ⟨⟨h1, h6⟩, hl, hn, hal, -⟩ := id hH
  have hr6 := pow4_le h6
  refine ctr_ev 60 [] rfl rfl (iF (c_has (hn c hc) p) (by decide) (bI (fun hp => ?_) (fun hp => ?_)))
  · rw [bi_0] at hp
    refine pqi hc ?_
    rw [sGrows, if_neg hp]
  · rw [bi_0, Classical.not_not] at hp
    rw [sGrows, if_pos hp]
    refine iF (c_within _ d 1 9) (by decide) (bI (fun hd => ?_) (fun hd => ?_))
    · rw [bi_0] at hd
      refine pqi hc ?_
      rw [if_neg (fun z => hd z.1)]
    · rw [bi_0, Classical.not_not] at hd
      refine iF (c_within _ x (-1) 1) (by decide) (bI (fun hx => ?_) (fun hx => ?_))
      · rw [bi_0] at hx
        refine pqi hc ?_
        rw [if_neg (fun z => hx z.2)]
      · rw [bi_0, Classical.not_not] at hx
        rw [if_pos ⟨hd, hx⟩]
        obtain ⟨hk, he⟩ := clampP h1 (by omega) hp
        obtain ⟨hk3, hk4, he3⟩ := clampW (a := 1) (b := 9) (by decide) hd (by decide)
        generalize tN p = q at hk he ⊢
        generalize tN d = day at hk3 hk4 he3 ⊢
        subst he he3
        refine iC (c_slipRow hH hc hk hk3 hk4) (by decide) ?_
        rintro _ _ ⟨c2, rfl, hc2, rfl⟩
        cases hs : slR n l day q with
        | none =>
          refine bI (fun h => ?_) (fun h => ?_)
          · refine bT rfl ?_
            refine pqi hc2 ?_
            simp only [if_pos h]
          · refine bT rfl ?_
            refine pqi hc2 ?_
            simp only [if_neg h]
            rfl
        | some row =>
          have hrow := slR_lt hs
          have hne : ¬ optI (some row) = -1 := nI_m1 (by omega)
          refine bI (fun h => ?_) (fun h => ?_)
          · refine bF hne ?_
            refine pqi hc2 ?_
            simp only [if_pos h]
          · refine bF hne ?_
            refine bI (fun h0 => ?_) (fun h0 => ?_)
            · refine pqi hc2 ?_
              simp only [if_neg h, if_pos h0]
              rfl
            · refine iC (c_slipBy hH hc2 hk hrow hk3 hk4) (by decide) ?_
              rintro _ _ ⟨c3, rfl, hc3, rfl⟩
              refine pqi hc3 ?_
              simp only [if_neg h, if_neg h0]
end CA2
end
section
/-! the class's calls over its persons' terms, third part -/
section CA3
variable {n : Nat} {l : Nat → Nat → Nat → Nat} {I : Sd → Prop} {c m : Sd}
theorem c_end (hH : CH n l I) (hc : I c) (x : Int32) : Ctr 6 71 [vR false 0 0, vI x] (c, m) (PQ I m (sEnd n l x)) := by
  obtain ⟨⟨h1, h6⟩, hl, hn, hal, -⟩ := id hH
  have hr6 := pow4_le h6
  refine ctr_ev 60 [17] rfl rfl (iF (c_within _ x 0 1) (by decide) (bI (fun hx => ?_) (fun hx => ?_)))
  · rw [bi_0] at hx
    refine pqi hc ?_
    rw [sEnd, if_neg hx]
  · rw [bi_0, Classical.not_not] at hx
    rw [sEnd, if_pos hx]
    have key : ∀ (j k : Nat) (b : Option Nat) (y a : Int32) (c : Sd), k + j = 4 ^ n → y = nI k → a = optI b → (∀ q, b = some q → q < 4 ^ n) → I c → endF (gd n l 0) (furS n x) (4 ^ n) 0 none = endF (gd n l 0) (furS n x) j k b → Go 6 71 none 17 [some (vR false 0 0), some (vI x), some (vI a), some (vI y)] [] (c, m) (PQ I m (optI (endF (gd n l 0) (furS n x) (4 ^ n) 0 none))) := by
      intro j
      induction j with
      | zero =>
        intro k b y a c hk hy ha hb hc hf
        refine go_ev 40 [17] (iF (c_rows h6 (hn c hc)) (by decide) (bT (by rw [hy, nIle (by omega) (by omega)]; omega) ?_))
        refine pqi hc ?_
        rw [hf, ha]
        rfl
      | succ j ih =>
        intro k b y a c hk hy ha hb hc hf
        subst hy ha
        refine go_ev 60 [17] (iF (c_rows h6 (hn c hc)) (by decide) (bF (by rw [nIle (by omega) (by omega)]; omega) ?_))
        refine iC (c_agrees hH hc (row := k) (s := 0) (by omega) (by decide)) (by decide) ?_
        rintro _ _ ⟨c2, rfl, hc2, rfl⟩
        refine bI (fun h => ?_) (fun h => ?_)
        · rw [bi_0] at h
          refine ih (k + 1) b _ _ c2 (by omega) (nI_succ k).symm rfl hb hc2 ?_
          rw [hf]
          simp only [endF]
          rw [if_neg (by simp [h])]
        · rw [bi_0, Classical.not_not] at h
          have hsome : ∀ q, some k = some q → q < 4 ^ n := fun q hq => by cases hq; omega
          refine bI (fun hb0 => ?_) (fun hb0 => ?_)
          · rw [optI_none (fun q hq => by have := hb q hq; omega)] at hb0
            subst hb0
            refine ih (k + 1) (some k) _ _ c2 (by omega) (nI_succ k).symm rfl hsome hc2 ?_
            rw [hf]
            simp only [endF]
            rw [if_pos (by simp [h])]
          · rw [optI_none (fun q hq => by have := hb q hq; omega)] at hb0
            obtain ⟨q, rfl⟩ := Option.ne_none_iff_exists'.mp hb0
            have hq := hb q rfl
            refine iF (c_sum _ (row := k) (by omega)) (by decide) ?_
            refine iF (c_sum _ (row := q) (by omega)) (by decide) ?_
            refine iF (c_isFurther _ _ _ _) (by decide) ?_
            have hs1 := sumK_n (row := k) (n := n) (by omega) 6 h6
            have hs2 := sumK_n (row := q) (n := n) hq 6 h6
            have hb1 := sumK_le k n
            have hb2 := sumK_le q n
            have hiff : (if x = 0 then nI (sumK q 6) < nI (sumK k 6) else nI (sumK k 6) < nI (sumK q 6)) ↔ furS n x k q = true := by
              unfold furS
              rw [hs1, hs2]
              split
              · rw [nIlt (by omega) (by omega), decide_eq_true_eq]
              · rw [nIlt (by omega) (by omega), decide_eq_true_eq]
            refine bI (fun hz => ?_) (fun hz => ?_)
            · rw [bi_0, hiff] at hz
              refine ih (k + 1) (some q) _ _ c2 (by omega) (nI_succ k).symm rfl hb hc2 ?_
              rw [hf]
              simp only [endF]
              rw [if_neg (by simp [h, hz])]
            · rw [bi_0, hiff, Classical.not_not] at hz
              refine ih (k + 1) (some k) _ _ c2 (by omega) (nI_succ k).symm rfl hsome hc2 ?_
              rw [hf]
              simp only [endF]
              rw [if_pos (by simp [h, hz])]
    exact key (4 ^ n) 0 none 0 (-1) c (by omega) rfl rfl (fun q hq => by cases hq) hc rfl
theorem c_sure (hH : CH n l I) (hc : I c) (s p : Int32) : Ctr 6 83 [vR false 0 0, vI s, vI p] (c, m) (PQ I m (sSure n l s p)) := by
  obtain ⟨⟨h1, h6⟩, hl, hn, -⟩ := id hH
  have h64 := pow2_le h6
  have hr6 := pow4_le h6
  refine ctr_ev 60 [31] rfl rfl (iF (c_hasAll h6 (hn c hc) s) (by decide) (bI (fun h => ?_) (fun h => ?_)))
  · rw [bi_0] at h
    refine pqi hc ?_
    rw [sSure, if_neg (fun z => h z.1)]
  · rw [bi_0, Classical.not_not] at h
    refine iF (c_has (hn c hc) p) (by decide) (bI (fun hp => ?_) (fun hp => ?_))
    · rw [bi_0] at hp
      refine pqi hc ?_
      rw [sSure, if_neg (fun z => hp z.2)]
    · rw [bi_0, Classical.not_not] at hp
      rw [sSure, if_pos ⟨h, hp⟩]
      obtain ⟨hk, he⟩ := clampP (pow2_pos n) (by omega) h
      obtain ⟨hk2, he2⟩ := clampP h1 (by omega) hp
      generalize tN s = t at hk he ⊢
      generalize tN p = q at hk2 he2 ⊢
      subst he he2
      have key : ∀ (j k : Nat) (b : Option Nat) (y a : Int32) (c : Sd), k + j = 4 ^ n → y = nI k → a = optI b → (∀ d, b = some d → d < 4) → I c → sureF (gd n l t) q (4 ^ n) 0 none = sureF (gd n l t) q j k b → Go 6 83 none 31 [some (vR false 0 0), some (vI (nI t)), some (vI (nI q)), some (vI a), some (vI y)] [] (c, m) (PQ I m (optI (sureF (gd n l t) q (4 ^ n) 0 none))) := by
        intro j
        induction j with
        | zero =>
          intro k b y a c hk hy ha hb hc hf
          refine go_ev 40 [31] (iF (c_rows h6 (hn c hc)) (by decide) (bT (by rw [hy, nIle (by omega) (by omega)]; omega) ?_))
          refine pqi hc ?_
          rw [hf, ha]
          rfl
        | succ j ih =>
          intro k b y a c hk hy ha hb hc hf
          subst hy ha
          have hdd := dd_lt k q
          refine go_ev 60 [31] (iF (c_rows h6 (hn c hc)) (by decide) (bF (by rw [nIle (by omega) (by omega)]; omega) ?_))
          refine iC (c_agrees hH hc (row := k) (s := t) (by omega) (by omega)) (by decide) ?_
          rintro _ _ ⟨c2, rfl, hc2, rfl⟩
          refine bI (fun h => ?_) (fun h => ?_)
          · rw [bi_0] at h
            refine ih (k + 1) b _ _ c2 (by omega) (nI_succ k).symm rfl hb hc2 ?_
            rw [hf]
            simp only [sureF]
            rw [if_neg h]
          · rw [bi_0, Classical.not_not] at h
            have hsome : ∀ d, some (dd k q) = some d → d < 4 := fun d hd => by cases hd; exact hdd
            refine bI (fun hb0 => ?_) (fun hb0 => ?_)
            · rw [optI_none (fun q hq => by have := hb q hq; omega)] at hb0
              subst hb0
              refine iF (c_deedN _ (by omega) (by omega)) (by decide) ?_
              refine ih (k + 1) (some (dd k q)) _ _ c2 (by omega) (nI_succ k).symm rfl hsome hc2 ?_
              rw [hf]
              simp only [sureF]
              rw [if_pos h, if_pos (Or.inl trivial)]
            · rw [optI_none (fun q hq => by have := hb q hq; omega)] at hb0
              obtain ⟨d, rfl⟩ := Option.ne_none_iff_exists'.mp hb0
              have hd := hb d rfl
              refine iF (c_deedN _ (by omega) (by omega)) (by decide) ?_
              refine bI (fun hz => ?_) (fun hz => ?_)
              · have hz : d = dd k q := (nIeq (by omega) (by omega)).mp hz
                refine iF (c_deedN _ (by omega) (by omega)) (by decide) ?_
                refine ih (k + 1) (some (dd k q)) _ _ c2 (by omega) (nI_succ k).symm rfl hsome hc2 ?_
                rw [hf]
                simp only [sureF]
                rw [if_pos h, if_pos (Or.inr (by rw [hz]))]
              · have hz : ¬ d = dd k q := fun z => hz ((nIeq (by omega) (by omega)).mpr z)
                refine pqi hc2 ?_
                rw [hf]
                simp only [sureF]
                rw [if_pos h, if_neg (by simp [hz])]
                rfl
      exact key (4 ^ n) 0 none 0 (-1) c (by omega) rfl rfl (fun q hq => by cases hq) hc rfl
theorem c_hangsOn (hH : CH n l I) (hc : I c) {p q row : Nat} (hp : p < n) (hq : q < n) (hr : row < 4 ^ n) : Ctr 4 59 [vR false 7 0, vI (nI p), vI (nI q), vI (nI row)] (c, m) (PQ I m (bi (hgOn l p q row = true))) := by
  obtain ⟨⟨h1, h6⟩, hl, hn, -, hao, -⟩ := id hH
  have hr6 := pow4_le h6
  have hnow := hl p row 9
  have key : ∀ (j k : Nat) (x : Int32) (c : Sd), k + j = 4 → x = nI k → I c → fst (fun d => l p (wdd row q d) 9 != l p row 9) 4 0 = fst (fun d => l p (wdd row q d) 9 != l p row 9) j k → Go 4 59 none 21 [some (vR false 7 0), some (vI (nI p)), some (vI (nI q)), some (vI (nI row)), some (vI (nI (l p row 9))), some (vI x)] [] (c, m) (PQ I m (bi (hgOn l p q row = true))) := by
    intro j
    induction j with
    | zero =>
      intro k x c hk hx hc hf
      subst hx
      refine go_ev 40 [21] (bT (by rw [show (3 : Int32) = nI 3 from rfl, nIlt (by decide) (by omega)]; omega) ?_)
      refine And.intro rfl (pqi hc ?_)
      rw [bi_f]
      unfold hgOn
      rw [hf]
      simp [fst]
    | succ j ih =>
      intro k x c hk hx hc hf
      subst hx
      refine go_ev 40 [21] (bF (by rw [show (3 : Int32) = nI 3 from rfl, nIlt (by decide) (by omega)]; omega) ?_)
      refine dI (vp6 (by omega)) ?_
      refine iF (c_withDeedN _ (by omega) (by omega) (by omega)) (by decide) ?_
      refine iC (hao c m hc p (wdd row q k) 9 hp (wdd_lt hr hq (by omega)) (by decide) (by decide)) (by decide) ?_
      rintro _ _ ⟨c2, rfl, hc2, rfl⟩
      have := hl p (wdd row q k) 9
      refine bI (fun h2 => ?_) (fun h2 => ?_)
      · rw [nIeq (by omega) (by omega)] at h2
        refine ih (k + 1) _ c2 (by omega) (nI_succ k).symm hc2 ?_
        rw [hf]
        simp [fst, h2]
      · rw [nIeq (by omega) (by omega)] at h2
        refine And.intro rfl (pqi hc2 ?_)
        rw [bi_t]
        unfold hgOn
        rw [hf]
        simp [fst, h2]
  refine ctr_ev 40 [21] rfl rfl (dI (vp6 (by omega)) ?_)
  refine iC (hao c m hc p row 9 hp hr (by decide) (by decide)) (by decide) ?_
  rintro _ _ ⟨c2, rfl, hc2, rfl⟩
  exact key 4 0 0 c2 rfl rfl hc2 rfl
theorem hgF_lt (l : Nat → Nat → Nat → Nat) (p row : Nat) : ∀ k, hgF l p row k < 2 ^ k := by
  intro k
  induction k with
  | zero => exact Nat.one_pos
  | succ k ih =>
    simp only [hgF, Nat.pow_succ]
    split <;> omega
theorem or_bit : ∀ k, k < 6 → ∀ a, a < 64 → a < 2 ^ k → nI a ||| ((1 : Int32) <<< (nI k &&& 31)) = nI (a + 2 ^ k) := by decide +kernel
theorem c_hangs (hH : CH n l I) (hown : ∀ p row day d, p < n → row < 4 ^ n → d < 4 → l p (wdd row p d) day = l p row day) (hc : I c) (p r : Int32) : Ctr 6 73 [vR false 0 0, vI p, vI r] (c, m) (PQ I m (sHangs n l p r)) := by
  obtain ⟨⟨h1, h6⟩, hl, hn, hal, -⟩ := id hH
  have hr6 := pow4_le h6
  refine ctr_ev 60 [35] rfl rfl (iF (c_has (hn c hc) p) (by decide) (bI (fun hp => ?_) (fun hp => ?_)))
  · rw [bi_0] at hp
    refine pqi hc ?_
    rw [sHangs, if_neg hp]
  · rw [bi_0, Classical.not_not] at hp
    rw [sHangs, if_pos hp]
    refine iF (c_hasRow h6 (hn c hc) r) (by decide) (bI (fun hr => ?_) (fun hr => ?_))
    · rw [bi_0] at hr
      refine pqi hc ?_
      rw [if_neg hr]
    · rw [bi_0, Classical.not_not] at hr
      rw [if_pos hr]
      obtain ⟨hk, he⟩ := clampP h1 (by omega) hp
      obtain ⟨hk2, he2⟩ := clampP (pow4_pos n) (by omega) hr
      generalize tN p = q at hk he ⊢
      generalize tN r = row at hk2 he2 ⊢
      subst he he2
      have hself : hgOn l q q row = false := by
        unfold hgOn
        rw [fst_no]
        · rfl
        · intro d _ hd
          simp [hown q row 9 d hk hk2 (by omega)]
      have key : ∀ (j k : Nat) (x a : Int32) (c : Sd), k + j = n → x = nI k → a = nI (hgF l q row k) → I c → Go 6 73 none 35 [some (vR false 0 0), some (vI (nI q)), some (vI (nI row)), some (vI a), some (vI x)] [] (c, m) (PQ I m (nI (hgF l q row n))) := by
        intro j
        induction j with
        | zero =>
          intro k x a c hk hx ha hc
          refine go_ev 40 [35] (bT (c := c.1 7 0 1 ≤ x) (by rw [hn c hc, hx, nIle (by omega) (by omega)]; omega) ?_)
          refine pqi hc ?_
          rw [ha, show k = n by omega]
        | succ j ih =>
          intro k x a c hk hx ha hc
          subst hx ha
          refine go_ev 40 [35] (bF (c := c.1 7 0 1 ≤ nI k) (by rw [hn c hc, nIle (by omega) (by omega)]; omega) ?_)
          refine iC (c_hangsOn hH hc (p := q) (q := k) (row := row) (by omega) (by omega) hk2) (by decide) ?_
          rintro _ _ ⟨c2, rfl, hc2, rfl⟩
          refine bI (fun h2 => ?_) (fun h2 => ?_)
          · rw [bi_0] at h2
            refine ih (k + 1) _ _ c2 (by omega) (nI_succ k).symm ?_ hc2
            simp [hgF, h2]
          · rw [bi_0, Classical.not_not] at h2
            have hkq : k ≠ q := fun z => by
              rw [z, hself] at h2
              cases h2
            refine ih (k + 1) _ _ c2 (by omega) (nI_succ k).symm ?_ hc2
            have hb := hgF_lt l q row k
            have hb2 : 2 ^ k ≤ 64 := pow2_le (by omega)
            rw [or_bit k (by omega) _ (by omega) hb]
            simp [hgF, h2, hkq]
      exact key n 0 0 0 c (by omega) rfl rfl hc
theorem c_nextDay (hH : CH n l I) (hc : I c) {row day : Nat} (hr : row < 4 ^ n) (hd1 : 1 ≤ day) (hd9 : day ≤ 9) : Ctr 4 61 [vR false 7 0, vI (nI row), vI (nI day)] (c, m) (PQ I m (nI (nday n l row day))) := by
  obtain ⟨⟨h1, h6⟩, hl, hn, hal, -⟩ := id hH
  have hr6 := pow4_le h6
  have hf4 : ∀ p, (fun p => max (dd row p) (l p row day)) p < 4 := fun p => by
    have := dd_lt row p
    have := hl p row day
    show max _ _ < 4
    omega
  have key : ∀ (j k : Nat) (x a : Int32) (c : Sd), k + j = n → x = nI k → a = nI (digs (fun p => max (dd row p) (l p row day)) k + row / 4 ^ k * 4 ^ k) → I c → Go 4 61 none 5 [some (vR false 7 0), some (vI (nI row)), some (vI (nI day)), some (vI a), some (vI x)] [] (c, m) (PQ I m (nI (nday n l row day))) := by
    intro j
    induction j with
    | zero =>
      intro k x a c hk hx ha hc
      refine go_ev 40 [5] (bT (c := c.1 7 0 1 ≤ x) (by rw [hn c hc, hx, nIle (by omega) (by omega)]; omega) ?_)
      refine pqi hc ?_
      rw [ha, show k = n by omega, Nat.div_eq_of_lt hr, Nat.zero_mul]
      rfl
    | succ j ih =>
      intro k x a c hk hx ha hc
      subst hx ha
      have hd := digs_lt hf4 k
      have hdd := dd_lt row k
      have hlk := hl k row day
      have hdm := Nat.div_mul_le_self row (4 ^ k)
      have hlt : digs (fun p => max (dd row p) (l p row day)) k + row / 4 ^ k * 4 ^ k < 4096 := by
        obtain ⟨i, hi⟩ : ∃ i, n = k + i := ⟨n - k, by omega⟩
        have e : 4 ^ n = 4 ^ k * 4 ^ i := by rw [hi, Nat.pow_add]
        have h3 : row / 4 ^ k < 4 ^ i := Nat.div_lt_of_lt_mul (by rw [← e]; exact hr)
        have h4 : (row / 4 ^ k + 1) * 4 ^ k ≤ 4 ^ i * 4 ^ k := Nat.mul_le_mul_right _ h3
        rw [Nat.add_mul, Nat.one_mul, Nat.mul_comm (4 ^ i), ← e] at h4
        omega
      refine go_ev 40 [5] (bF (c := c.1 7 0 1 ≤ nI k) (by rw [hn c hc, nIle (by omega) (by omega)]; omega) ?_)
      refine iF (c_deedN _ (by omega) (by omega)) (by decide) ?_
      refine dI (vp6 (by omega)) ?_
      refine iC (hal c m hc k row day (by omega) hr hd1 hd9) (by decide) ?_
      rintro _ _ ⟨c2, rfl, hc2, rfl⟩
      refine iF (c_maxN _ (by omega) (by omega)) (by decide) ?_
      refine iF (c_withDeedN _ hlt (by omega) (by omega)) (by decide) ?_
      refine ih (k + 1) _ _ c2 (by omega) (nI_succ k).symm ?_ hc2
      rw [mix_step hd]
      rfl
  refine ctr_ev 40 [5] rfl rfl ?_
  exact key n 0 0 (nI row) c (by omega) rfl (by simp [digs]) hc
theorem nday_lt {n : Nat} {l : Nat → Nat → Nat → Nat} (hl : ∀ p row day, l p row day < 4) (row day : Nat) : nday n l row day < 4 ^ n := digs_lt (fun p => by
  have := dd_lt row p
  have := hl p row day
  show max _ _ < 4
  omega) n
theorem byD_lt {n : Nat} {l : Nat → Nat → Nat → Nat} (hl : ∀ p row day, l p row day < 4) : ∀ d, byD n l d < 4 ^ n
  | 0 => pow4_pos n
  | d + 1 => nday_lt hl _ _
theorem c_byDay (hH : CH n l I) (hc : I c) (d : Int32) : Ctr 6 76 [vR false 0 0, vI d] (c, m) (PQ I m (sByDay n l d)) := by
  obtain ⟨⟨h1, h6⟩, hl, hn, hal, -⟩ := id hH
  have hr6 := pow4_le h6
  refine ctr_ev 60 [18] rfl rfl (iF (c_within _ d 0 9) (by decide) (bI (fun hd => ?_) (fun hd => ?_)))
  · rw [bi_0] at hd
    refine pqi hc ?_
    rw [sByDay, if_neg hd]
  · rw [bi_0, Classical.not_not] at hd
    rw [sByDay, if_pos hd]
    obtain ⟨hk3, hk4, he3⟩ := clampW (a := 0) (b := 9) (by decide) hd (by decide)
    generalize tN d = day at hk3 hk4 he3 ⊢
    subst he3
    have key : ∀ (j k : Nat) (x a : Int32) (c : Sd), k + j = day → x = nI (k + 1) → a = nI (byD n l k) → I c → Go 6 76 none 18 [some (vR false 0 0), some (vI (nI day)), some (vI a), some (vI x)] [] (c, m) (PQ I m (nI (byD n l day))) := by
      intro j
      induction j with
      | zero =>
        intro k x a c hk hx ha hc
        subst hx
        refine go_ev 40 [18] (bT (by rw [nIlt (by omega) (by omega)]; omega) ?_)
        refine pqi hc ?_
        rw [ha, show k = day by omega]
      | succ j ih =>
        intro k x a c hk hx ha hc
        subst hx ha
        refine go_ev 40 [18] (bF (by rw [nIlt (by omega) (by omega)]; omega) ?_)
        refine iC (c_nextDay hH hc (row := byD n l k) (day := k + 1) (byD_lt hl k) (by omega) (by omega)) (by decide) ?_
        rintro _ _ ⟨c2, rfl, hc2, rfl⟩
        exact ih (k + 1) _ _ c2 (by omega) (nI_succ (k + 1)).symm rfl hc2
    exact key day 0 1 0 c (by omega) rfl rfl hc
theorem c_dares (hH : CH n l I) (hc : I c) (p : Int32) : Ctr 6 77 [vR false 0 0, vI p] (c, m) (PQ I m (sDares n l p)) := by
  obtain ⟨⟨h1, h6⟩, hl, hn, hal, -⟩ := id hH
  have hr6 := pow4_le h6
  refine ctr_ev 60 [19] rfl rfl (iF (c_has (hn c hc) p) (by decide) (bI (fun hp => ?_) (fun hp => ?_)))
  · rw [bi_0] at hp
    refine pqi hc ?_
    rw [sDares, if_neg hp]
  · rw [bi_0, Classical.not_not] at hp
    rw [sDares, if_pos hp]
    obtain ⟨hk, he⟩ := clampP h1 (by omega) hp
    generalize tN p = q at hk he ⊢
    subst he
    have key : ∀ (j k : Nat) (x a : Int32) (c : Sd), k + j = 9 → x = nI (k + 1) → a = nI (byD n l k) → I c → fst (fun d => decide (0 < dd (byD n l d) q)) 9 1 = fst (fun d => decide (0 < dd (byD n l d) q)) j (k + 1) → Go 6 77 none 19 [some (vR false 0 0), some (vI (nI q)), some (vI a), some (vI x)] [] (c, m) (PQ I m (optI (fst (fun d => decide (0 < dd (byD n l d) q)) 9 1))) := by
      intro j
      induction j with
      | zero =>
        intro k x a c hk hx ha hc hf
        subst hx
        refine go_ev 40 [19] (bT (by rw [show (9 : Int32) = nI 9 from rfl, nIlt (by omega) (by omega)]; omega) ?_)
        refine pqi hc ?_
        rw [hf]
        rfl
      | succ j ih =>
        intro k x a c hk hx ha hc hf
        subst hx ha
        refine go_ev 40 [19] (bF (by rw [show (9 : Int32) = nI 9 from rfl, nIlt (by omega) (by omega)]; omega) ?_)
        refine iC (c_nextDay hH hc (row := byD n l k) (day := k + 1) (byD_lt hl k) (by omega) (by omega)) (by decide) ?_
        rintro _ _ ⟨c2, rfl, hc2, rfl⟩
        have hlt := nday_lt (n := n) hl (byD n l k) (k + 1)
        have hdd := dd_lt (nday n l (byD n l k) (k + 1)) q
        refine iF (c_deedN _ (by omega) (by omega)) (by decide) ?_
        refine bI (fun h2 => ?_) (fun h2 => ?_)
        · rw [show (0 : Int32) = nI 0 from rfl, nIle (by omega) (by decide)] at h2
          refine ih (k + 1) _ _ c2 (by omega) (nI_succ (k + 1)).symm rfl hc2 ?_
          rw [hf]
          simp only [fst]
          rw [if_neg]
          show ¬ decide (0 < dd (nday n l (byD n l k) (k + 1)) q) = true
          simp; omega
        · rw [show (0 : Int32) = nI 0 from rfl, nIle (by omega) (by decide)] at h2
          refine pqi hc2 ?_
          rw [hf]
          simp only [fst]
          rw [if_pos]
          · rfl
          · show decide (0 < dd (nday n l (byD n l k) (k + 1)) q) = true
            simp; omega
    exact key 9 0 1 0 c (by omega) rfl rfl hc rfl
end CA3
end
section
/-! offers: the class's side -/
def OH (pt wo : Nat → Nat) (I : Sd → Prop) : Prop := (∀ p, pt p ≤ 99 ∧ wo p ≤ 99) ∧ ∀ c, I c → ∀ p, p < 6 → c.1 9 p 3 = nI (pt p) ∧ c.1 9 p 4 = nI (wo p)
/-- what all of a set pledge -/
def plg (pt : Nat → Nat) (s : Nat) : Nat → Nat
  | 0 => 0
  | k + 1 => plg pt s k + (if s.testBit k = true then pt k else 0)
/-- the set with one more, or without -/
def sx (s p : Nat) : Nat := if s.testBit p = true then s - 2 ^ p else s + 2 ^ p
def hbv (pt wo : Nat → Nat) (n : Nat) (goal top : Int32) (p s : Nat) : Int32 := if goal ≤ nI (plg pt s n) then (if s.testBit p = true then nI (wo p) - nI (pt p) else nI (wo p)) else (if s.testBit p = true then top else 0)
def rsB (pt wo : Nat → Nat) (n : Nat) (goal top : Int32) (s : Nat) : Bool := (fst (fun p => !decide (hbv pt wo n goal top p (sx s p) ≤ hbv pt wo n goal top p s)) n 0).isNone
def rch (pt wo : Nat → Nat) (n : Nat) (goal top : Int32) : Bool := (fst (fun s => rsB pt wo n goal top s && !decide (goal ≤ nI (plg pt s n))) (2 ^ n) 0).isNone && (fst (rsB pt wo n goal top) (2 ^ n) 0).isSome
def sRests (pt wo : Nat → Nat) (n : Nat) (s goal top : Int32) : Int32 := if inS n s then (if inW 1 500 goal ∧ inW 0 99 top then bi (rsB pt wo n goal top (tN s) = true) else -1002) else -1001
def sLeastTop (pt wo : Nat → Nat) (n : Nat) (goal : Int32) : Int32 := if inW 1 500 goal then optI (fst (fun top => rch pt wo n goal (nI top)) 100 0) else -1002
theorem plg_le {pt : Nat → Nat} (h : ∀ p, pt p ≤ 99) (s : Nat) : ∀ k, plg pt s k ≤ 99 * k
  | 0 => Nat.le_refl _
  | k + 1 => by
    have := plg_le h s k
    have := h k
    simp only [plg]
    split <;> omega
theorem sx_bit : ∀ s, s < 64 → ∀ p, p < 6 → ∀ q, q < 6 → (sx s p).testBit q = (if q = p then !s.testBit q else s.testBit q) := by decide +kernel
theorem plg_low {pt : Nat → Nat} {s p : Nat} (hs : s < 64) (hp : p < 6) : ∀ k, k ≤ p → plg pt (sx s p) k = plg pt s k
  | 0, _ => rfl
  | k + 1, h => by
    simp only [plg]
    rw [plg_low hs hp k (by omega), sx_bit s hs p hp k (by omega), if_neg (show ¬ k = p by omega)]
theorem plg_in {pt : Nat → Nat} {s p : Nat} (hs : s < 64) (hp : p < 6) (hb : s.testBit p = true) : ∀ k, p < k → k ≤ 6 → plg pt (sx s p) k + pt p = plg pt s k
  | 0, h, _ => absurd h (by omega)
  | k + 1, h, h6 => by
    simp only [plg]
    rw [sx_bit s hs p hp k (by omega)]
    by_cases hk : k = p
    · subst hk
      rw [plg_low hs hp k (Nat.le_refl _)]
      simp [hb]
    · rw [if_neg hk]
      have := plg_in (pt := pt) hs hp hb k (by omega) (by omega)
      omega
theorem plg_out {pt : Nat → Nat} {s p : Nat} (hs : s < 64) (hp : p < 6) (hb : ¬ s.testBit p = true) : ∀ k, p < k → k ≤ 6 → plg pt (sx s p) k = plg pt s k + pt p
  | 0, h, _ => absurd h (by omega)
  | k + 1, h, h6 => by
    simp only [plg]
    rw [sx_bit s hs p hp k (by omega)]
    by_cases hk : k = p
    · subst hk
      rw [plg_low hs hp k (Nat.le_refl _)]
      simp [hb]
    · rw [if_neg hk]
      have := plg_out (pt := pt) hs hp hb k (by omega) (by omega)
      omega
theorem fst_snoc (bad : Nat → Bool) : ∀ (j k : Nat), fst bad (j + 1) k = match fst bad j k with
    | some q => some q
    | none => if bad (k + j) then some (k + j) else none := by
  intro j
  induction j with
  | zero => intro k; simp [fst]
  | succ j ih =>
    intro k
    rw [fst]
    split
    · rename_i h
      simp [fst, h]
    · rename_i h
      rw [ih (k + 1), show k + 1 + j = k + (j + 1) by omega]
      simp [fst, h]
section OFF
variable {n : Nat} {l : Nat → Nat → Nat → Nat} {I : Sd → Prop} {c m : Sd} {pt wo : Nat → Nat}
theorem c_pledged (hH : CH n l I) (hO : OH pt wo I) (hc : I c) {s : Nat} (hs : s < 2 ^ 31) : Fn 1 3 [vR false 21 0, vI (nI s)] (c, m) (c, m) (some (vI (nI (plg pt s n)))) := by
  obtain ⟨⟨h1, h6⟩, hl, hn, -⟩ := id hH
  obtain ⟨hb, ho⟩ := hO
  have key : ∀ (j k : Nat) (x a : Int32), k + j = n → x = nI k → a = nI (plg pt s k) → Go 1 3 none 4 [some (vR false 21 0), some (vI (nI s)), some (vI a), some (vI x)] [] (c, m) (fun w' r' => w' = (c, m) ∧ r' = some (vI (nI (plg pt s n)))) := by
    intro j
    induction j with
    | zero =>
      intro k x a hk hx ha
      refine go_ev 40 [4] (bT (c := c.1 7 0 1 ≤ x) (by rw [hn c hc, hx, nIle (by omega) (by omega)]; omega) ?_)
      exact And.intro rfl (by rw [ha, show k = n by omega])
    | succ j ih =>
      intro k x a hk hx ha
      subst hx
      refine go_ev 40 [4] (bF (c := c.1 7 0 1 ≤ nI k) (by rw [hn c hc, nIle (by omega) (by omega)]; omega) ?_)
      refine iF (c_isInN _ hs (by omega)) (by decide) ?_
      refine bI (fun h => ?_) (fun h => ?_)
      · rw [bi_0] at h
        refine ih (k + 1) _ _ (by omega) (nI_succ k).symm ?_
        rw [ha]
        simp [plg, h]
      · rw [bi_0, Classical.not_not] at h
        refine dI (vp6 (by omega)) ?_
        refine ih (k + 1) _ _ (by omega) (nI_succ k).symm ?_
        show a + c.1 9 (nI k).toNatClampNeg 3 = _
        rw [ha, nI_clamp (by omega), (ho c hc k (by omega)).1, nIadd]
        simp [plg, h]
  refine ctr_ev 40 [4] rfl rfl ?_
  exact key n 0 0 0 (by omega) rfl rfl
/-- what one has: b1 whether it pledges, b2 whether it comes to the goal -/
theorem c_outcome (w : Wd) (i : Nat) (b1 b2 top : Int32) : Fn 0 2 [vR false 9 i, vI b1, vI b2, vI top] w w (some (vI (if b2 = 0 then (if b1 = 0 then 0 else top) else (if b1 = 0 then wF w false 9 i 4 else wF w false 9 i 4 - wF w false 9 i 3)))) := by
  refine ctr_ev 20 [] rfl rfl (bI (fun h => bI (fun h1 => ?_) (fun h1 => ?_)) (fun h => bI (fun h1 => ?_) (fun h1 => ?_)))
  · exact And.intro rfl (by rw [if_pos h, if_pos h1])
  · exact And.intro rfl (by rw [if_pos h, if_neg h1])
  · exact And.intro rfl (by rw [if_neg h, if_pos h1])
  · exact And.intro rfl (by rw [if_neg h, if_neg h1])
theorem c_isAtRest (hH : CH n l I) (hO : OH pt wo I) (hc : I c) {s : Nat} (hs : s < 2 ^ n) (goal top : Int32) : Fn 2 0 [vR false 21 0, vI (nI s), vI goal, vI top] (c, m) (c, m) (some (vI (bi (rsB pt wo n goal top s = true)))) := by
  obtain ⟨⟨h1, h6⟩, hl, hn, -⟩ := id hH
  obtain ⟨hb, ho⟩ := id hO
  have h64 := pow2_le h6
  have hall := plg_le (fun p => (hb p).1) s n
  have key : ∀ (j k : Nat) (x : Int32) (v6 v7 v8 : Option PV), k + j = n → x = nI k → fst (fun p => !decide (hbv pt wo n goal top p (sx s p) ≤ hbv pt wo n goal top p s)) n 0 = fst (fun p => !decide (hbv pt wo n goal top p (sx s p) ≤ hbv pt wo n goal top p s)) j k → Go 2 0 none 10 [some (vR false 21 0), some (vI (nI s)), some (vI goal), some (vI top), some (vI (nI (plg pt s n))), some (vI x), v6, v7, v8] [] (c, m) (fun w' r' => w' = (c, m) ∧ r' = some (vI (bi (rsB pt wo n goal top s = true)))) := by
    intro j
    induction j with
    | zero =>
      intro k x v6 v7 v8 hk hx hf
      refine go_ev 40 [10] (bT (c := c.1 7 0 1 ≤ x) (by rw [hn c hc, hx, nIle (by omega) (by omega)]; omega) ?_)
      refine And.intro rfl (And.intro rfl ?_)
      rw [bi_t]
      unfold rsB
      rw [hf]
      rfl
    | succ j ih =>
      intro k x v6 v7 v8 hk hx hf
      subst hx
      have hcl : (nI k).toNatClampNeg = k := nI_clamp (by omega)
      have hpk := (ho c hc k (by omega)).1
      have hwk := (ho c hc k (by omega)).2
      have hp99 := (hb k).1
      refine go_ev 80 [10] (bF (c := c.1 7 0 1 ≤ nI k) (by rw [hn c hc, nIle (by omega) (by omega)]; omega) ?_)
      refine dI (vp6 (by omega)) ?_
      rw [hcl]
      refine iF (c_isInN _ (by omega) (by omega)) (by decide) ?_
      by_cases hbit : s.testBit k = true
      · rw [bi_t hbit]
        have hsb : (sx s k).testBit k = false := by rw [sx_bit s (by omega) k (by omega) k (by omega)]; simp [hbit]
        have hpl := plg_in (pt := pt) (s := s) (p := k) (by omega) (by omega) hbit n (by omega) h6
        have e1 : nI (plg pt s n) - c.1 9 k 3 = nI (plg pt (sx s k) n) := by rw [hpk, pk_sub (by omega)]; congr 1; omega
        refine bF (by decide) ?_
        refine bF (by decide) ?_
        refine bI (c := nI (plg pt s n) - c.1 9 k 3 < goal) (fun h2 => ?_) (fun h2 => ?_)
        · rw [e1] at h2
          have g1 : ¬ goal ≤ nI (plg pt (sx s k) n) := Int32.not_le.mpr h2
          have o1 : Fn 0 2 [vR false 9 k, vI 0, vI 0, vI top] (c, m) (c, m) (some (vI (hbv pt wo n goal top k (sx s k)))) := by
            have z := c_outcome (c, m) k 0 0 top
            have e2 : (if (0 : Int32) = 0 then (if (0 : Int32) = 0 then 0 else top) else (if (0 : Int32) = 0 then c.1 9 k 4 else c.1 9 k 4 - c.1 9 k 3)) = hbv pt wo n goal top k (sx s k) := by
              rw [hpk, hwk, hbv, hsb]
              simp [g1]
            exact e2 ▸ z
          refine iF o1 (by decide) ?_
          refine bI (c := nI (plg pt s n) < goal) (fun h3 => ?_) (fun h3 => ?_)
          · have g2 : ¬ goal ≤ nI (plg pt s n) := Int32.not_le.mpr h3
            have o2 : Fn 0 2 [vR false 9 k, vI 1, vI 0, vI top] (c, m) (c, m) (some (vI (hbv pt wo n goal top k s))) := by
              have z := c_outcome (c, m) k 1 0 top
              have e2 : (if (0 : Int32) = 0 then (if (1 : Int32) = 0 then 0 else top) else (if (1 : Int32) = 0 then c.1 9 k 4 else c.1 9 k 4 - c.1 9 k 3)) = hbv pt wo n goal top k s := by
                rw [hpk, hwk, hbv]
                simp [g2, hbit]
              exact e2 ▸ z
            refine iF o2 (by decide) ?_
            refine bI (fun h5 => ?_) (fun h5 => ?_)
            · refine ih (k + 1) _ _ _ _ (by omega) (nI_succ k).symm ?_
              rw [hf]
              simp only [fst]
              rw [if_neg (by simp [h5])]
            · refine And.intro rfl (And.intro rfl ?_)
              rw [bi_f]
              unfold rsB
              rw [hf]
              simp only [fst]
              rw [if_pos (by simp [h5])]
              simp
          · have g2 : goal ≤ nI (plg pt s n) := Int32.not_lt.mp h3
            have o2 : Fn 0 2 [vR false 9 k, vI 1, vI 1, vI top] (c, m) (c, m) (some (vI (hbv pt wo n goal top k s))) := by
              have z := c_outcome (c, m) k 1 1 top
              have e2 : (if (1 : Int32) = 0 then (if (1 : Int32) = 0 then 0 else top) else (if (1 : Int32) = 0 then c.1 9 k 4 else c.1 9 k 4 - c.1 9 k 3)) = hbv pt wo n goal top k s := by
                rw [hpk, hwk, hbv]
                simp [g2, hbit]
              exact e2 ▸ z
            refine iF o2 (by decide) ?_
            refine bI (fun h5 => ?_) (fun h5 => ?_)
            · refine ih (k + 1) _ _ _ _ (by omega) (nI_succ k).symm ?_
              rw [hf]
              simp only [fst]
              rw [if_neg (by simp [h5])]
            · refine And.intro rfl (And.intro rfl ?_)
              rw [bi_f]
              unfold rsB
              rw [hf]
              simp only [fst]
              rw [if_pos (by simp [h5])]
              simp
        · rw [e1] at h2
          have g1 : goal ≤ nI (plg pt (sx s k) n) := Int32.not_lt.mp h2
          have o1 : Fn 0 2 [vR false 9 k, vI 0, vI 1, vI top] (c, m) (c, m) (some (vI (hbv pt wo n goal top k (sx s k)))) := by
            have z := c_outcome (c, m) k 0 1 top
            have e2 : (if (1 : Int32) = 0 then (if (0 : Int32) = 0 then 0 else top) else (if (0 : Int32) = 0 then c.1 9 k 4 else c.1 9 k 4 - c.1 9 k 3)) = hbv pt wo n goal top k (sx s k) := by
              rw [hpk, hwk, hbv, hsb]
              simp [g1]
            exact e2 ▸ z
          refine iF o1 (by decide) ?_
          refine bI (c := nI (plg pt s n) < goal) (fun h3 => ?_) (fun h3 => ?_)
          · have g2 : ¬ goal ≤ nI (plg pt s n) := Int32.not_le.mpr h3
            have o2 : Fn 0 2 [vR false 9 k, vI 1, vI 0, vI top] (c, m) (c, m) (some (vI (hbv pt wo n goal top k s))) := by
              have z := c_outcome (c, m) k 1 0 top
              have e2 : (if (0 : Int32) = 0 then (if (1 : Int32) = 0 then 0 else top) else (if (1 : Int32) = 0 then c.1 9 k 4 else c.1 9 k 4 - c.1 9 k 3)) = hbv pt wo n goal top k s := by
                rw [hpk, hwk, hbv]
                simp [g2, hbit]
              exact e2 ▸ z
            refine iF o2 (by decide) ?_
            refine bI (fun h5 => ?_) (fun h5 => ?_)
            · refine ih (k + 1) _ _ _ _ (by omega) (nI_succ k).symm ?_
              rw [hf]
              simp only [fst]
              rw [if_neg (by simp [h5])]
            · refine And.intro rfl (And.intro rfl ?_)
              rw [bi_f]
              unfold rsB
              rw [hf]
              simp only [fst]
              rw [if_pos (by simp [h5])]
              simp
          · have g2 : goal ≤ nI (plg pt s n) := Int32.not_lt.mp h3
            have o2 : Fn 0 2 [vR false 9 k, vI 1, vI 1, vI top] (c, m) (c, m) (some (vI (hbv pt wo n goal top k s))) := by
              have z := c_outcome (c, m) k 1 1 top
              have e2 : (if (1 : Int32) = 0 then (if (1 : Int32) = 0 then 0 else top) else (if (1 : Int32) = 0 then c.1 9 k 4 else c.1 9 k 4 - c.1 9 k 3)) = hbv pt wo n goal top k s := by
                rw [hpk, hwk, hbv]
                simp [g2, hbit]
              exact e2 ▸ z
            refine iF o2 (by decide) ?_
            refine bI (fun h5 => ?_) (fun h5 => ?_)
            · refine ih (k + 1) _ _ _ _ (by omega) (nI_succ k).symm ?_
              rw [hf]
              simp only [fst]
              rw [if_neg (by simp [h5])]
            · refine And.intro rfl (And.intro rfl ?_)
              rw [bi_f]
              unfold rsB
              rw [hf]
              simp only [fst]
              rw [if_pos (by simp [h5])]
              simp
      · rw [bi_f hbit]
        have hsb : (sx s k).testBit k = true := by rw [sx_bit s (by omega) k (by omega) k (by omega)]; simp [hbit]
        have hpl := plg_out (pt := pt) (s := s) (p := k) (by omega) (by omega) hbit n (by omega) h6
        have e1 : nI (plg pt s n) + c.1 9 k 3 = nI (plg pt (sx s k) n) := by rw [hpk, nIadd, hpl]
        refine bT rfl ?_
        refine bT rfl ?_
        refine bI (c := nI (plg pt s n) + c.1 9 k 3 < goal) (fun h2 => ?_) (fun h2 => ?_)
        · rw [e1] at h2
          have g1 : ¬ goal ≤ nI (plg pt (sx s k) n) := Int32.not_le.mpr h2
          have o1 : Fn 0 2 [vR false 9 k, vI 1, vI 0, vI top] (c, m) (c, m) (some (vI (hbv pt wo n goal top k (sx s k)))) := by
            have z := c_outcome (c, m) k 1 0 top
            have e2 : (if (0 : Int32) = 0 then (if (1 : Int32) = 0 then 0 else top) else (if (1 : Int32) = 0 then c.1 9 k 4 else c.1 9 k 4 - c.1 9 k 3)) = hbv pt wo n goal top k (sx s k) := by
              rw [hpk, hwk, hbv, hsb]
              simp [g1]
            exact e2 ▸ z
          refine iF o1 (by decide) ?_
          refine bI (c := nI (plg pt s n) < goal) (fun h3 => ?_) (fun h3 => ?_)
          · have g2 : ¬ goal ≤ nI (plg pt s n) := Int32.not_le.mpr h3
            have o2 : Fn 0 2 [vR false 9 k, vI 0, vI 0, vI top] (c, m) (c, m) (some (vI (hbv pt wo n goal top k s))) := by
              have z := c_outcome (c, m) k 0 0 top
              have e2 : (if (0 : Int32) = 0 then (if (0 : Int32) = 0 then 0 else top) else (if (0 : Int32) = 0 then c.1 9 k 4 else c.1 9 k 4 - c.1 9 k 3)) = hbv pt wo n goal top k s := by
                rw [hpk, hwk, hbv]
                simp [g2, hbit]
              exact e2 ▸ z
            refine iF o2 (by decide) ?_
            refine bI (fun h5 => ?_) (fun h5 => ?_)
            · refine ih (k + 1) _ _ _ _ (by omega) (nI_succ k).symm ?_
              rw [hf]
              simp only [fst]
              rw [if_neg (by simp [h5])]
            · refine And.intro rfl (And.intro rfl ?_)
              rw [bi_f]
              unfold rsB
              rw [hf]
              simp only [fst]
              rw [if_pos (by simp [h5])]
              simp
          · have g2 : goal ≤ nI (plg pt s n) := Int32.not_lt.mp h3
            have o2 : Fn 0 2 [vR false 9 k, vI 0, vI 1, vI top] (c, m) (c, m) (some (vI (hbv pt wo n goal top k s))) := by
              have z := c_outcome (c, m) k 0 1 top
              have e2 : (if (1 : Int32) = 0 then (if (0 : Int32) = 0 then 0 else top) else (if (0 : Int32) = 0 then c.1 9 k 4 else c.1 9 k 4 - c.1 9 k 3)) = hbv pt wo n goal top k s := by
                rw [hpk, hwk, hbv]
                simp [g2, hbit]
              exact e2 ▸ z
            refine iF o2 (by decide) ?_
            refine bI (fun h5 => ?_) (fun h5 => ?_)
            · refine ih (k + 1) _ _ _ _ (by omega) (nI_succ k).symm ?_
              rw [hf]
              simp only [fst]
              rw [if_neg (by simp [h5])]
            · refine And.intro rfl (And.intro rfl ?_)
              rw [bi_f]
              unfold rsB
              rw [hf]
              simp only [fst]
              rw [if_pos (by simp [h5])]
              simp
        · rw [e1] at h2
          have g1 : goal ≤ nI (plg pt (sx s k) n) := Int32.not_lt.mp h2
          have o1 : Fn 0 2 [vR false 9 k, vI 1, vI 1, vI top] (c, m) (c, m) (some (vI (hbv pt wo n goal top k (sx s k)))) := by
            have z := c_outcome (c, m) k 1 1 top
            have e2 : (if (1 : Int32) = 0 then (if (1 : Int32) = 0 then 0 else top) else (if (1 : Int32) = 0 then c.1 9 k 4 else c.1 9 k 4 - c.1 9 k 3)) = hbv pt wo n goal top k (sx s k) := by
              rw [hpk, hwk, hbv, hsb]
              simp [g1]
            exact e2 ▸ z
          refine iF o1 (by decide) ?_
          refine bI (c := nI (plg pt s n) < goal) (fun h3 => ?_) (fun h3 => ?_)
          · have g2 : ¬ goal ≤ nI (plg pt s n) := Int32.not_le.mpr h3
            have o2 : Fn 0 2 [vR false 9 k, vI 0, vI 0, vI top] (c, m) (c, m) (some (vI (hbv pt wo n goal top k s))) := by
              have z := c_outcome (c, m) k 0 0 top
              have e2 : (if (0 : Int32) = 0 then (if (0 : Int32) = 0 then 0 else top) else (if (0 : Int32) = 0 then c.1 9 k 4 else c.1 9 k 4 - c.1 9 k 3)) = hbv pt wo n goal top k s := by
                rw [hpk, hwk, hbv]
                simp [g2, hbit]
              exact e2 ▸ z
            refine iF o2 (by decide) ?_
            refine bI (fun h5 => ?_) (fun h5 => ?_)
            · refine ih (k + 1) _ _ _ _ (by omega) (nI_succ k).symm ?_
              rw [hf]
              simp only [fst]
              rw [if_neg (by simp [h5])]
            · refine And.intro rfl (And.intro rfl ?_)
              rw [bi_f]
              unfold rsB
              rw [hf]
              simp only [fst]
              rw [if_pos (by simp [h5])]
              simp
          · have g2 : goal ≤ nI (plg pt s n) := Int32.not_lt.mp h3
            have o2 : Fn 0 2 [vR false 9 k, vI 0, vI 1, vI top] (c, m) (c, m) (some (vI (hbv pt wo n goal top k s))) := by
              have z := c_outcome (c, m) k 0 1 top
              have e2 : (if (1 : Int32) = 0 then (if (0 : Int32) = 0 then 0 else top) else (if (0 : Int32) = 0 then c.1 9 k 4 else c.1 9 k 4 - c.1 9 k 3)) = hbv pt wo n goal top k s := by
                rw [hpk, hwk, hbv]
                simp [g2, hbit]
              exact e2 ▸ z
            refine iF o2 (by decide) ?_
            refine bI (fun h5 => ?_) (fun h5 => ?_)
            · refine ih (k + 1) _ _ _ _ (by omega) (nI_succ k).symm ?_
              rw [hf]
              simp only [fst]
              rw [if_neg (by simp [h5])]
            · refine And.intro rfl (And.intro rfl ?_)
              rw [bi_f]
              unfold rsB
              rw [hf]
              simp only [fst]
              rw [if_pos (by simp [h5])]
              simp
  refine ctr_ev 40 [10] rfl rfl ?_
  refine iF (c_pledged hH hO hc (by omega)) (by decide) ?_
  exact key n 0 0 none none none (by omega) rfl rfl
theorem c_reaches (hH : CH n l I) (hO : OH pt wo I) (hc : I c) (goal top : Int32) : Fn 3 1 [vR false 21 0, vI goal, vI top] (c, m) (c, m) (some (vI (bi (rch pt wo n goal top = true)))) := by
  obtain ⟨⟨h1, h6⟩, hl, hn, -⟩ := id hH
  have h64 := pow2_le h6
  have hsz : (1 : Int32) <<< (c.1 7 0 1 &&& 31) = nI (2 ^ n) := by rw [hn c hc, nI_sets h6]
  have key : ∀ (j k : Nat) (x a : Int32), k + j = 2 ^ n → x = nI k → a = bi ((fst (rsB pt wo n goal top) k 0).isSome = true) → fst (fun s => rsB pt wo n goal top s && !decide (goal ≤ nI (plg pt s n))) (2 ^ n) 0 = fst (fun s => rsB pt wo n goal top s && !decide (goal ≤ nI (plg pt s n))) j k → Go 3 1 none 5 [some (vR false 21 0), some (vI goal), some (vI top), some (vI a), some (vI x)] [] (c, m) (fun w' r' => w' = (c, m) ∧ r' = some (vI (bi (rch pt wo n goal top = true)))) := by
    intro j
    induction j with
    | zero =>
      intro k x a hk hx ha hf
      refine go_ev 40 [5] (bT (c := (1 : Int32) <<< (c.1 7 0 1 &&& 31) ≤ x) (by rw [hsz, hx, nIle (by omega) (by omega)]; omega) ?_)
      have e : bi (rch pt wo n goal top = true) = a := by
        rw [ha, show k = 2 ^ n by omega]
        unfold rch
        rw [hf]
        simp [fst]
      rw [e]
      refine And.intro ?_ (And.intro rfl rfl)
      rw [ha]
      exact zok_bi
    | succ j ih =>
      intro k x a hk hx ha hf
      subst hx
      have hsnoc : fst (rsB pt wo n goal top) (k + 1) 0 = match fst (rsB pt wo n goal top) k 0 with
        | some q => some q
        | none => if rsB pt wo n goal top k then some k else none := by
        have z := fst_snoc (rsB pt wo n goal top) k 0
        rw [Nat.zero_add] at z
        exact z
      refine go_ev 40 [5] (bF (c := (1 : Int32) <<< (c.1 7 0 1 &&& 31) ≤ nI k) (by rw [hsz, nIle (by omega) (by omega)]; omega) ?_)
      refine iF (c_isAtRest hH hO hc (s := k) (by omega) goal top) (by decide) ?_
      refine bI (fun h => ?_) (fun h => ?_)
      · rw [bi_0] at h
        refine ih (k + 1) _ _ (by omega) (nI_succ k).symm ?_ ?_
        · rw [ha, hsnoc]
          cases fst (rsB pt wo n goal top) k 0 <;> simp [h]
        · rw [hf]
          simp [fst, h]
      · rw [bi_0, Classical.not_not] at h
        refine iF (c_pledged hH hO hc (by omega)) (by decide) ?_
        refine bI (fun h2 => ?_) (fun h2 => ?_)
        · refine ih (k + 1) _ _ (by omega) (nI_succ k).symm ?_ ?_
          · rw [bi_t]
            rw [hsnoc]
            cases fst (rsB pt wo n goal top) k 0 <;> simp [h]
          · rw [hf]
            simp [fst, h2]
        · refine And.intro rfl (And.intro rfl ?_)
          rw [bi_f]
          unfold rch
          rw [hf]
          simp [fst, h, h2]
  refine ctr_ev 40 [5] rfl rfl ?_
  exact key (2 ^ n) 0 0 0 (by omega) rfl (by rw [bi_f (by simp [fst])]) rfl
theorem c_rests (hH : CH n l I) (hO : OH pt wo I) (hc : I c) (s goal top : Int32) : Ctr 4 79 [vR false 0 0, vI s, vI goal, vI top] (c, m) (PQ I m (sRests pt wo n s goal top)) := by
  obtain ⟨⟨h1, h6⟩, hl, hn, -⟩ := id hH
  have h64 := pow2_le h6
  refine ctr_ev 60 [] rfl rfl (iF (c_hasAll h6 (hn c hc) s) (by decide) (bI (fun h => ?_) (fun h => ?_)))
  · rw [bi_0] at h
    refine pqi hc ?_
    rw [sRests, if_neg h]
  · rw [bi_0, Classical.not_not] at h
    rw [sRests, if_pos h]
    refine iF (c_within _ goal 1 500) (by decide) (bI (fun hg => ?_) (fun hg => ?_))
    · rw [bi_0] at hg
      refine pqi hc ?_
      rw [if_neg (fun z => hg z.1)]
    · rw [bi_0, Classical.not_not] at hg
      refine iF (c_within _ top 0 99) (by decide) (bI (fun ht => ?_) (fun ht => ?_))
      · rw [bi_0] at ht
        refine pqi hc ?_
        rw [if_neg (fun z => ht z.2)]
      · rw [bi_0, Classical.not_not] at ht
        rw [if_pos ⟨hg, ht⟩]
        obtain ⟨hk, he⟩ := clampP (pow2_pos n) (by omega) h
        generalize tN s = k at hk he ⊢
        subst he
        refine iF (c_isAtRest hH hO hc hk goal top) (by decide) ?_
        refine bI (fun hz => ?_) (fun hz => ?_)
        · exact pqi hc hz.symm
        · rw [bi_0, Classical.not_not] at hz
          exact pqi hc (bi_t hz).symm
theorem c_leastTop (hH : CH n l I) (hO : OH pt wo I) (hc : I c) (goal : Int32) : Ctr 5 80 [vR false 0 0, vI goal] (c, m) (PQ I m (sLeastTop pt wo n goal)) := by
  refine ctr_ev 60 [17] rfl rfl (iF (c_within _ goal 1 500) (by decide) (bI (fun hg => ?_) (fun hg => ?_)))
  · rw [bi_0] at hg
    refine pqi hc ?_
    rw [sLeastTop, if_neg hg]
  · rw [bi_0, Classical.not_not] at hg
    rw [sLeastTop, if_pos hg]
    have key : ∀ (j k : Nat) (x : Int32), k + j = 100 → x = nI k → fst (fun top => rch pt wo n goal (nI top)) 100 0 = fst (fun top => rch pt wo n goal (nI top)) j k → Go 5 80 none 17 [some (vR false 0 0), some (vI goal), some (vI x)] [] (c, m) (PQ I m (optI (fst (fun top => rch pt wo n goal (nI top)) 100 0))) := by
      intro j
      induction j with
      | zero =>
        intro k x hk hx hf
        subst hx
        refine go_ev 40 [17] (bT (by rw [show (99 : Int32) = nI 99 from rfl, nIlt (by omega) (by omega)]; omega) ?_)
        refine pqi hc ?_
        rw [hf]
        rfl
      | succ j ih =>
        intro k x hk hx hf
        subst hx
        refine go_ev 40 [17] (bF (by rw [show (99 : Int32) = nI 99 from rfl, nIlt (by omega) (by omega)]; omega) ?_)
        refine iF (c_reaches hH hO hc goal (nI k)) (by decide) ?_
        refine bI (fun h => ?_) (fun h => ?_)
        · rw [bi_0] at h
          refine ih (k + 1) _ (by omega) (nI_succ k).symm ?_
          rw [hf]
          simp [fst, h]
        · rw [bi_0, Classical.not_not] at h
          refine pqi hc ?_
          rw [hf]
          simp [fst, h, optI]
    exact key 100 0 0 (by omega) rfl rfl
end OFF
end
section
/-! orbits: where a climb comes round -/
def orb (f : Nat → Nat) (x : Nat) : Nat → Nat
  | 0 => x
  | k + 1 => f (orb f x k)
def Cyc (f : Nat → Nat) (x mu la : Nat) : Prop := 1 ≤ la ∧ orb f x (mu + la) = orb f x mu ∧ ∀ i j, i < j → j < mu + la → orb f x i ≠ orb f x j
section ORB
variable {f : Nat → Nat} {x mu la : Nat}
theorem cyc_per (h : Cyc f x mu la) : ∀ d, orb f x (mu + d + la) = orb f x (mu + d)
  | 0 => h.2.1
  | d + 1 => by
    rw [show mu + (d + 1) + la = (mu + d + la) + 1 by omega, show mu + (d + 1) = (mu + d) + 1 by omega]
    simp only [orb]
    rw [cyc_per h d]
theorem cyc_per2 (h : Cyc f x mu la) (d : Nat) : ∀ k, orb f x (mu + d + k * la) = orb f x (mu + d)
  | 0 => by simp
  | k + 1 => by
    have := cyc_per h (d + k * la)
    rw [show mu + d + (k + 1) * la = mu + (d + k * la) + la by rw [Nat.add_mul]; omega, this, show mu + (d + k * la) = mu + d + k * la by omega]
    exact cyc_per2 h d k
theorem cyc_rep (h : Cyc f x mu la) {i : Nat} (hi : mu ≤ i) : orb f x i = orb f x (mu + (i - mu) % la) := by
  have h1 := cyc_per2 h ((i - mu) % la) ((i - mu) / la)
  have h2 := Nat.mod_add_div (i - mu) la
  rw [← h1]
  congr 1
  rw [Nat.mul_comm] at h2
  omega
theorem cyc_iff (h : Cyc f x mu la) {i j : Nat} (hij : i < j) : orb f x i = orb f x j ↔ mu ≤ i ∧ (j - i) % la = 0 := by
  have hl := h.1
  constructor
  · intro he
    have hmi := Nat.mod_lt (i - mu) (show 0 < la by omega)
    have hmj := Nat.mod_lt (j - mu) (show 0 < la by omega)
    have key : ∀ a b, a < mu + la → b < mu + la → orb f x a = orb f x b → a = b := by
      intro a b ha hb hab
      rcases Nat.lt_trichotomy a b with q | q | q
      · exact absurd hab (h.2.2 a b q hb)
      · exact q
      · exact absurd hab.symm (h.2.2 b a q ha)
    by_cases hi : mu ≤ i
    · refine ⟨hi, ?_⟩
      rw [cyc_rep h hi, cyc_rep h (i := j) (by omega)] at he
      have := key _ _ (by omega) (by omega) he
      have h3 : (j - mu) % la = (i - mu) % la := by omega
      have h4 := Nat.sub_mod_eq_zero_of_mod_eq h3
      rw [show j - mu - (i - mu) = j - i by omega] at h4
      exact h4
    · exfalso
      by_cases hj : mu ≤ j
      · rw [cyc_rep h hj] at he
        have := key _ _ (by omega) (by omega) he
        omega
      · have := key _ _ (by omega) (by omega) he
        omega
  · rintro ⟨hi, hm⟩
    have h1 := cyc_per2 h (i - mu) ((j - i) / la)
    have h2 := Nat.mod_add_div (j - i) la
    rw [hm, Nat.zero_add, Nat.mul_comm] at h2
    rw [h2, show mu + (i - mu) = i by omega, show i + (j - i) = j by omega] at h1
    exact h1.symm
theorem cyc_la (h : Cyc f x mu la) {P r : Nat} (hr : 1 ≤ r) (he : orb f x (P + r) = orb f x P) (hno : ∀ r', 1 ≤ r' → r' < r → orb f x (P + r') ≠ orb f x P) : r = la ∧ mu ≤ P := by
  have h1 := (cyc_iff h (i := P) (j := P + r) (by omega)).mp he.symm
  rw [Nat.add_sub_cancel_left] at h1
  have hl := h.1
  have hge : la ≤ r := Nat.le_of_dvd (by omega) (Nat.dvd_of_mod_eq_zero h1.2)
  refine ⟨?_, h1.1⟩
  rcases Nat.lt_or_ge la r with q | q
  · exfalso
    refine hno la hl q ((cyc_iff h (i := P) (j := P + la) (by omega)).mpr ⟨h1.1, ?_⟩).symm
    rw [Nat.add_sub_cancel_left, Nat.mod_self]
  · omega
end ORB
/-- what a step does: at once (way 0) or one by one; tl, wd: one who does a told word -/
def lf (l : Nat → Nat → Nat → Nat) (tl : Option Nat) (wd p row : Nat) : Nat := if tl = some p then wd else l p row 9
def ob (g : Nat → Nat → Nat) (row : Nat) : Nat → Nat
  | 0 => row
  | k + 1 => wdd (ob g row k) k (g k (ob g row k))
def nxt (n : Nat) (g : Nat → Nat → Nat) (way : Int32) (row : Nat) : Nat := if way = 0 then digs (fun p => g p row) n else ob g row n
theorem lf_lt {l : Nat → Nat → Nat → Nat} (hl : ∀ p row day, l p row day < 4) {tl : Option Nat} {wd : Nat} (hw : tl ≠ none → wd < 4) (p row : Nat) : lf l tl wd p row < 4 := by
  unfold lf
  split
  · rename_i h
    exact hw (by rw [h]; simp)
  · exact hl _ _ _
theorem ob_lt {n : Nat} {g : Nat → Nat → Nat} (hg : ∀ p row, g p row < 4) {row : Nat} (hr : row < 4 ^ n) : ∀ k, k ≤ n → ob g row k < 4 ^ n
  | 0, _ => hr
  | k + 1, h => wdd_lt (ob_lt hg hr k (by omega)) (by omega) (hg _ _)
theorem nxt_lt {n : Nat} {g : Nat → Nat → Nat} (hg : ∀ p row, g p row < 4) {way : Int32} {row : Nat} (hr : row < 4 ^ n) : nxt n g way row < 4 ^ n := by
  unfold nxt
  split
  · exact digs_lt (fun p => hg p row) n
  · exact ob_lt hg hr n (Nat.le_refl _)
theorem orb_lt {n : Nat} {g : Nat → Nat → Nat} (hg : ∀ p row, g p row < 4) {way : Int32} {row : Nat} (hr : row < 4 ^ n) : ∀ k, orb (nxt n g way) row k < 4 ^ n
  | 0 => hr
  | k + 1 => nxt_lt hg (orb_lt hg hr k)
/-- the class's side: I holds whatever the climber's own numbers are -/
def CK (n : Nat) (l : Nat → Nat → Nat → Nat) (I : Sd → Prop) : Prop := (∀ g : Nat → Int32, CH n l (fun c => I c ∧ ∀ f, c.1 20 0 f = g f)) ∧ ∀ c m f x, I c → I (sF (c, m) false 20 0 f x).1
section CLI
variable {n : Nat} {l : Nat → Nat → Nat → Nat} {I : Sd → Prop} {c m : Sd}
theorem optI_eq {o : Option Nat} {k : Nat} (h : ∀ q, o = some q → q < 2 ^ 31) (hk : k < 2 ^ 31) : nI k = optI o ↔ o = some k := by
  cases o with
  | none => exact ⟨fun z => absurd z (nI_m1 hk), fun z => by cases z⟩
  | some q =>
    rw [show optI (some q) = nI q from rfl, nIeq hk (h q rfl)]
    exact ⟨fun z => by rw [z], fun z => by cases z; rfl⟩
theorem mix_lt {n row k S : Nat} (hr : row < 4 ^ n) (hk : k ≤ n) (hS : S < 4 ^ k) : S + row / 4 ^ k * 4 ^ k < 4 ^ n := by
  obtain ⟨i, hi⟩ : ∃ i, n = k + i := ⟨n - k, by omega⟩
  have e : 4 ^ n = 4 ^ k * 4 ^ i := by rw [hi, Nat.pow_add]
  have h3 : row / 4 ^ k < 4 ^ i := Nat.div_lt_of_lt_mul (by rw [← e]; exact hr)
  have h4 : (row / 4 ^ k + 1) * 4 ^ k ≤ 4 ^ i * 4 ^ k := Nat.mul_le_mul_right _ h3
  rw [Nat.add_mul, Nat.one_mul, Nat.mul_comm (4 ^ i), ← e] at h4
  omega
theorem c_next (hH : CH n l I) (hc : I c) {row wd : Nat} {tl : Option Nat} (hr : row < 4 ^ n) (ht : ∀ q, tl = some q → q < 2 ^ 31) (hw : tl ≠ none → wd < 4) (way : Int32) : Ctr 4 5 [vR false 20 0, vI (nI row), vI way, vI (optI tl), vI (nI wd)] (c, m) (PQ I m (nI (nxt n (lf l tl wd) way row))) := by
  obtain ⟨⟨h1, h6⟩, hl, hn, -, hao, -⟩ := id hH
  have hr6 := pow4_le h6
  have hg := lf_lt hl hw
  have key : ∀ (j k dn : Nat) (x a : Int32) (v7 v8 : Option PV) (c : Sd), k + j = n → x = nI k → a = nI dn → dn < 4 ^ n → dn = (if way = 0 then digs (fun p => lf l tl wd p row) k + row / 4 ^ k * 4 ^ k else ob (lf l tl wd) row k) → (v7 = none ∨ ∃ z, v7 = some (vI z)) → I c → Go 4 5 none 6 [some (vR false 20 0), some (vI (nI row)), some (vI way), some (vI (optI tl)), some (vI (nI wd)), some (vI a), some (vI x), v7, v8] [] (c, m) (PQ I m (nI (nxt n (lf l tl wd) way row))) := by
    intro j
    induction j with
    | zero =>
      intro k dn x a v7 v8 c hk hx ha hlt hd hv hc
      have hkn : k = n := by omega
      subst hkn
      refine go_ev 40 [6] (bT (c := c.1 7 0 1 ≤ x) (by rw [hn c hc, hx, nIle (by omega) (by omega)]; omega) ?_)
      refine pqi hc ?_
      rw [ha, hd, nxt]
      split
      · rw [Nat.div_eq_of_lt hr, Nat.zero_mul, Nat.add_zero]
      · rfl
    | succ j ih =>
      intro k dn x a v7 v8 c hk hx ha hlt hd hv hc
      subst hx ha
      have hdg := digs_lt (fun p => hg p row) k
      have fin : ∀ (c2 : Sd) (v7 : Int32) (dz : Nat), I c2 → dz < 4 → dz = lf l tl wd k (if way = 0 then row else dn) → Go 4 5 none 67 [some (vR false 20 0), some (vI (nI row)), some (vI way), some (vI (optI tl)), some (vI (nI wd)), some (vI (nI dn)), some (vI (nI k)), some (vI v7), some (vI (nI dz))] [] (c2, m) (PQ I m (nI (nxt n (lf l tl wd) way row))) := by
        intro c2 v7 dz hc2 hdz he
        refine go_ev 20 [6] (iF (c_withDeedN _ (by omega) (by omega) hdz) (by decide) ?_)
        refine ih (k + 1) (wdd dn k dz) _ _ _ _ c2 (by omega) (nI_succ k).symm rfl (wdd_lt hlt (by omega) hdz) ?_ (Or.inr ⟨_, rfl⟩) hc2
        by_cases hway : way = 0
        · rw [if_pos hway] at hd he ⊢
          rw [hd, mix_step hdg, he]
          rfl
        · rw [if_neg hway] at hd he ⊢
          rw [he, hd]
          rfl
      refine go_ev 60 [6, 67] (bF (c := c.1 7 0 1 ≤ nI k) (by rw [hn c hc, nIle (by omega) (by omega)]; omega) ?_)
      refine bI (fun hway => ?_) (fun hway => ?_)
      · refine bI (fun htl => ?_) (fun htl => ?_)
        · rw [optI_eq ht (by omega)] at htl
          exact fin c _ wd hc (hw (by rw [htl]; simp)) (by unfold lf; rw [if_pos htl])
        · rw [optI_eq ht (by omega)] at htl
          refine dI (vp6 (by omega)) ?_
          refine iC (hao c m hc k row 9 (by omega) hr (by decide) (by decide)) (by decide) ?_
          rintro _ _ ⟨c2, rfl, hc2, rfl⟩
          exact fin c2 _ _ hc2 (hl _ _ _) (by unfold lf; rw [if_neg htl, if_pos hway])
      · refine bI (fun htl => ?_) (fun htl => ?_)
        · rw [optI_eq ht (by omega)] at htl
          exact fin c _ wd hc (hw (by rw [htl]; simp)) (by unfold lf; rw [if_pos htl])
        · rw [optI_eq ht (by omega)] at htl
          refine dI (vp6 (by omega)) ?_
          refine iC (hao c m hc k dn 9 (by omega) hlt (by decide) (by decide)) (by decide) ?_
          rintro _ _ ⟨c2, rfl, hc2, rfl⟩
          exact fin c2 _ _ hc2 (hl _ _ _) (by unfold lf; rw [if_neg htl, if_neg hway])
  refine ctr_ev 40 [6] rfl rfl ?_
  exact key n 0 row 0 (nI row) none none c (by omega) rfl rfl hr (by simp [digs, ob]) (Or.inl rfl) hc
/-- the climber's numbers behind a climb -/
def cF (g : Nat → Int32) (f : Nat) (x : Int32) : Nat → Int32 := fun k => if k = f then x else g k
theorem cF_at {c m : Sd} {g : Nat → Int32} {f : Nat} {x : Int32} (h : ∀ k, c.1 20 0 k = g k) : ∀ k, (sF (c, m) false 20 0 f x).1.1 20 0 k = cF g f x k := by
  intro k
  show up3 c.1 20 0 f x 20 0 k = _
  unfold up3 cF
  simp only [if_true]
  rw [h]
def IG (I : Sd → Prop) (g : Nat → Int32) : Sd → Prop := fun c => I c ∧ ∀ f, c.1 20 0 f = g f
theorem ig_put {n : Nat} {l : Nat → Nat → Nat → Nat} (hK : CK n l I) {g : Nat → Int32} (f : Nat) (x : Int32) (hc : IG I g c) : IG I (cF g f x) (sF (c, m) false 20 0 f x).1 := ⟨hK.2 c m f x hc.1, cF_at hc.2⟩
/-- the answer of a climb, by where it comes round -/
def rstI (f : Nat → Nat) (row mu la : Nat) : Int32 := if la = 1 then nI (orb f row mu) else -1
def QS (I : Sd → Prop) (m : Sd) (rst stp rnd : Int32) : Wd → Option PV → Prop := fun w' r' => ∃ c' : Sd, w' = (c', m) ∧ I c' ∧ c'.1 20 0 1 = rst ∧ c'.1 20 0 2 = stp ∧ c'.1 20 0 3 = rnd ∧ r' = none
set_option maxHeartbeats 1000000 in
theorem c_start (hK : CK n l I) (hc : I c) {row wd mu la : Nat} {tl : Option Nat} (hr : row < 4 ^ n) (ht : ∀ q, tl = some q → q < 2 ^ 31) (hw : tl ≠ none → wd < 4) (way : Int32) (hcy : Cyc (nxt n (lf l tl wd) way) row mu la) (hml : mu + la ≤ 4096) : Ctr 5 4 [vR false 20 0, vI (nI row), vI way, vI (optI tl), vI (nI wd)] (c, m) (QS I m (rstI (nxt n (lf l tl wd) way) row mu la) (nI mu) (nI la)) := by
  have hH := hK.1
  obtain ⟨⟨h1, h6⟩, hl, -⟩ := id (hH (fun _ => 0))
  have hr6 := pow4_le h6
  have hg := lf_lt hl hw
  have hO := fun k => orb_lt (n := n) hg (way := way) hr k
  have hla := hcy.1
  generalize hF : nxt n (lf l tl wd) way = F at hcy hO
  have hnx : ∀ {g : Nat → Int32} {c : Sd} (k : Nat), IG I g c → Ctr 4 5 [vR false 20 0, vI (nI (orb F row k)), vI way, vI (optI tl), vI (nI wd)] (c, m) (PQ (IG I g) m (nI (orb F row (k + 1)))) := by
    intro g c k hc
    have := c_next (m := m) (hH g) hc (hO k) ht hw way
    rw [hF] at this
    exact this
  -- third part: the two go on with a round between them
  have k3 : ∀ (j i : Nat) (here ahead : Int32) (v5 v7 : Int32) (g : Nat → Int32) (c : Sd), i + j = mu → here = nI (orb F row i) → ahead = nI (orb F row (i + la)) → g 2 = nI i → g 3 = nI la → IG I g c → Go 5 4 none 133 [some (vR false 20 0), some (vI (nI row)), some (vI way), some (vI (optI tl)), some (vI (nI wd)), some (vI v5), some (vI ahead), some (vI v7), some (vI here)] [] (c, m) (QS I m (rstI F row mu la) (nI mu) (nI la)) := by
    intro j
    induction j with
    | zero =>
      intro i here ahead v5 v7 g c hi hh hah hg2 hg3 hc
      have hmu : i = mu := by omega
      subst hmu
      have heq : here = ahead := by rw [hh, hah, hcy.2.1]
      refine go_ev 40 [133] (bT heq ?_)
      have h3 : c.1 20 0 3 = nI la := by rw [hc.2 3, hg3]
      refine bI (c := c.1 20 0 3 = 1) (fun h => ?_) (fun h => ?_)
      · have h' : la = 1 := by
          rw [h3, show (1 : Int32) = nI 1 from rfl, nIeq (by omega) (by decide)] at h
          exact h
        have hp := ig_put (m := m) hK 1 here hc
        exact ⟨(sF (c, m) false 20 0 1 here).1, rfl, hp.1, (hp.2 1).trans (show here = _ from by rw [rstI, if_pos h', hh]), (hp.2 2).trans hg2, (hp.2 3).trans hg3, rfl⟩
      · have h' : ¬ la = 1 := by
          rw [h3, show (1 : Int32) = nI 1 from rfl, nIeq (by omega) (by decide)] at h
          exact h
        have hp := ig_put (m := m) hK 1 (-1) hc
        exact ⟨(sF (c, m) false 20 0 1 (-1)).1, rfl, hp.1, (hp.2 1).trans (show (-1 : Int32) = _ from by rw [rstI, if_neg h']), (hp.2 2).trans hg2, (hp.2 3).trans hg3, rfl⟩
    | succ j ih =>
      intro i here ahead v5 v7 g c hi hh hah hg2 hg3 hc
      subst hh hah
      have hne : ¬ nI (orb F row i) = nI (orb F row (i + la)) := by
        have := hO i
        have := hO (i + la)
        rw [nIeq (by omega) (by omega), cyc_iff hcy (by omega)]
        omega
      refine go_ev 40 [133] (bF hne ?_)
      have h2 : c.1 20 0 2 = nI i := by rw [hc.2 2, hg2]
      refine bF (c := (16384 : Int32) ≤ c.1 20 0 2) (by rw [h2, show (16384 : Int32) = nI 16384 from rfl, nIle (by decide) (by omega)]; omega) ?_
      refine iC (hnx i hc) (by decide) ?_
      rintro _ _ ⟨c2, rfl, hc2, rfl⟩
      refine iC (hnx (i + la) hc2) (by decide) ?_
      rintro _ _ ⟨c3, rfl, hc3, rfl⟩
      have hp := ig_put (m := m) hK 2 (c3.1 20 0 2 + 1) hc3
      refine ih (i + 1) _ _ _ _ (cF g 2 (c3.1 20 0 2 + 1)) _ (by omega) rfl (by rw [show i + 1 + la = i + la + 1 by omega]) ?_ hg3 hp
      show c3.1 20 0 2 + 1 = _
      rw [hc3.2 2, hg2, nI_succ]
  -- second part: a round ahead
  have k2 : ∀ (j i : Nat) (x ahead : Int32) (v5 v7 : Int32) (g : Nat → Int32) (c : Sd), i + j = la → x = nI i → ahead = nI (orb F row i) → g 3 = nI la → IG I g c → Go 5 4 none 98 [some (vR false 20 0), some (vI (nI row)), some (vI way), some (vI (optI tl)), some (vI (nI wd)), some (vI v5), some (vI ahead), some (vI v7), some (vI x)] [] (c, m) (QS I m (rstI F row mu la) (nI mu) (nI la)) := by
    intro j
    induction j with
    | zero =>
      intro i x ahead v5 v7 g c hi hx hah hg3 hc
      have h3 : c.1 20 0 3 = nI la := by rw [hc.2 3, hg3]
      refine go_ev 40 [98, 133] (bT (c := c.1 20 0 3 ≤ x) (by rw [h3, hx, nIle (by omega) (by omega)]; omega) ?_)
      have hp := ig_put (m := m) hK 2 0 hc
      exact k3 mu 0 _ _ _ _ (cF g 2 0) _ (by omega) rfl (by rw [hah, Nat.zero_add, show i = la by omega]) rfl hg3 hp
    | succ j ih =>
      intro i x ahead v5 v7 g c hi hx hah hg3 hc
      subst hx hah
      have h3 : c.1 20 0 3 = nI la := by rw [hc.2 3, hg3]
      refine go_ev 40 [98] (bF (c := c.1 20 0 3 ≤ nI i) (by rw [h3, nIle (by omega) (by omega)]; omega) ?_)
      refine iC (hnx i hc) (by decide) ?_
      rintro _ _ ⟨c2, rfl, hc2, rfl⟩
      exact ih (i + 1) _ _ _ _ g c2 (by omega) (nI_succ i).symm rfl hg3 hc2
  -- first part: the round is measured
  have k1 : ∀ (fuel e r : Nat) (mark ahead lim x : Int32) (g : Nat → Int32) (c : Sd), 2 ^ e - 1 + r + fuel = 8192 → 1 ≤ r → r ≤ 2 ^ e → e ≤ 12 → mark = nI (orb F row (2 ^ e - 1)) → ahead = nI (orb F row (2 ^ e - 1 + r)) → lim = nI (2 ^ e) → x = nI (2 ^ e - 1 + r - 1) → (∀ r', 1 ≤ r' → r' < r → orb F row (2 ^ e - 1 + r') ≠ orb F row (2 ^ e - 1)) → g 3 = nI r → IG I g c → Go 5 4 none 25 [some (vR false 20 0), some (vI (nI row)), some (vI way), some (vI (optI tl)), some (vI (nI wd)), some (vI mark), some (vI ahead), some (vI lim), some (vI x)] [] (c, m) (QS I m (rstI F row mu la) (nI mu) (nI la)) := by
    intro fuel
    induction fuel with
    | zero =>
      intro e r mark ahead lim x g c hf hr1 hr2 he hmk hah hlm hx hno hg3 hc
      exfalso
      have : 2 ^ e ≤ 2 ^ 12 := Nat.pow_le_pow_right (by decide) he
      omega
    | succ fuel ih =>
      intro e r mark ahead lim x g c hf hr1 hr2 he hmk hah hlm hx hno hg3 hc
      have h12 : 2 ^ e ≤ 2 ^ 12 := Nat.pow_le_pow_right (by decide) he
      have hpe : 1 ≤ 2 ^ e := Nat.pow_pos (by decide)
      subst hmk hah hlm hx
      have hb1 := hO (2 ^ e - 1)
      have hb2 := hO (2 ^ e - 1 + r)
      refine go_ev 60 [25, 98] (bF (by rw [show (16384 : Int32) = nI 16384 from rfl, nIle (by decide) (by omega)]; omega) ?_)
      refine bI (fun hq => ?_) (fun hq => ?_)
      · rw [nIeq (by omega) (by omega)] at hq
        have hrl := (cyc_la hcy hr1 hq hno).1
        exact k2 la 0 _ _ _ _ g c (by omega) rfl rfl (by rw [hg3, hrl]) hc
      · rw [nIeq (by omega) (by omega)] at hq
        have hno' : ∀ r', 1 ≤ r' → r' < r + 1 → orb F row (2 ^ e - 1 + r') ≠ orb F row (2 ^ e - 1) := by
          intro r' ha hb
          by_cases hrr : r' = r
          · rw [hrr]; exact hq
          · exact hno r' ha (by omega)
        have h3 : c.1 20 0 3 = nI r := by rw [hc.2 3, hg3]
        refine bI (c := c.1 20 0 3 = nI (2 ^ e)) (fun hz => ?_) (fun hz => ?_)
        · rw [h3, nIeq (by omega) (by omega)] at hz
          have he12 : e < 12 := by
            rcases Nat.lt_or_ge e 12 with q | q
            · exact q
            · exfalso
              have : e = 12 := by omega
              subst this
              refine hno' la hla (by omega) ?_
              exact ((cyc_iff hcy (i := 2 ^ 12 - 1) (j := 2 ^ 12 - 1 + la) (by omega)).mpr ⟨by omega, by rw [Nat.add_sub_cancel_left, Nat.mod_self]⟩).symm
          have hp := ig_put (m := m) hK 3 0 hc
          refine iC (hnx (2 ^ e - 1 + r) hp) (by decide) ?_
          rintro _ _ ⟨c2, rfl, hc2, rfl⟩
          have hp2 := ig_put (m := m) hK 3 (c2.1 20 0 3 + 1) hc2
          have e2 : 2 ^ (e + 1) = 2 ^ e * 2 := Nat.pow_succ ..
          have hpos : 2 ^ (e + 1) - 1 = 2 ^ e - 1 + r := by omega
          refine ih (e + 1) 1 _ _ _ _ (cF (cF g 3 0) 3 (c2.1 20 0 3 + 1)) _ (by omega) (by omega) (by omega) (by omega) (by rw [hpos]) (by rw [hpos]) (by rw [show (2 : Int32) = nI 2 from rfl, pk_mul, e2]) ?_ (fun r' ha hb => absurd ha (by omega)) ?_ hp2
          · rw [show (1 : Int32) = nI 1 from rfl, nIadd]
            congr 1
            omega
          · show c2.1 20 0 3 + 1 = _
            rw [hc2.2 3]
            rfl
        · rw [h3, nIeq (by omega) (by omega)] at hz
          refine iC (hnx (2 ^ e - 1 + r) hc) (by decide) ?_
          rintro _ _ ⟨c2, rfl, hc2, rfl⟩
          have hp2 := ig_put (m := m) hK 3 (c2.1 20 0 3 + 1) hc2
          refine ih e (r + 1) _ _ _ _ (cF g 3 (c2.1 20 0 3 + 1)) _ (by omega) (by omega) (by omega) he rfl rfl rfl ?_ hno' ?_ hp2
          · rw [show (1 : Int32) = nI 1 from rfl, nIadd]
            congr 1
            omega
          · show c2.1 20 0 3 + 1 = _
            rw [hc2.2 3, hg3, nI_succ]
  refine ctr_ev 60 [25] rfl rfl ?_
  refine iC (hnx (g := c.1 20 0) (c := c) 0 ⟨hc, fun _ => rfl⟩) (by decide) ?_
  rintro _ _ ⟨c2, rfl, hc2, rfl⟩
  have hp := ig_put (m := m) hK 3 1 hc2
  exact k1 8191 0 1 _ _ _ _ (cF (c.1 20 0) 3 1) _ (by decide) (by decide) (by decide) (by decide) rfl rfl rfl rfl (fun r' ha hb => absurd ha (by omega)) rfl hp
end CLI
end
section
/-! where a climb comes round, as a number -/
theorem pig : ∀ (N : Nat) (g : Nat → Nat), (∀ i, i ≤ N → g i < N) → ∃ i j, i < j ∧ j ≤ N ∧ g i = g j := by
  intro N
  induction N with
  | zero => intro g h; exact absurd (h 0 (Nat.le_refl _)) (by omega)
  | succ N ih =>
    intro g h
    by_cases hv : ∃ i, i ≤ N ∧ g i = g (N + 1)
    · obtain ⟨i, hi, e⟩ := hv
      exact ⟨i, N + 1, by omega, Nat.le_refl _, e⟩
    · have hv : ∀ i, i ≤ N → g i ≠ g (N + 1) := fun i hi e => hv ⟨i, hi, e⟩
      have hl := h (N + 1) (Nat.le_refl _)
      obtain ⟨i, j, h1, h2, h3⟩ := ih (fun i => if g i = N then g (N + 1) else g i) (fun i hi => by
        have h1 := h i (by omega)
        have h2 := hv i hi
        show (if g i = N then g (N + 1) else g i) < N
        split <;> omega)
      refine ⟨i, j, h1, by omega, ?_⟩
      have g1 := hv i (by omega)
      have g2 := hv j h2
      have h3 : (if g i = N then g (N + 1) else g i) = (if g j = N then g (N + 1) else g j) := h3
      split at h3 <;> split at h3
      · omega
      · exact absurd h3.symm g2
      · exact absurd h3 g1
      · exact h3
theorem fst_some {bad : Nat → Bool} : ∀ (j k q : Nat), k ≤ q → q < k + j → bad q = true → ∃ r, fst bad j k = some r ∧ r ≤ q := by
  intro j
  induction j with
  | zero => intro k q h1 h2; omega
  | succ j ih =>
    intro k q h1 h2 hb
    simp only [fst]
    by_cases hk : bad k = true
    · rw [if_pos hk]
      exact ⟨k, rfl, h1⟩
    · rw [if_neg hk]
      have : k ≠ q := fun z => hk (z ▸ hb)
      exact ih (k + 1) q (by omega) (by omega) hb
theorem fst_least {bad : Nat → Bool} : ∀ (j k r : Nat), fst bad j k = some r → ∀ q, k ≤ q → q < r → bad q = false := by
  intro j k r h q h1 h2
  cases hb : bad q with
  | false => rfl
  | true =>
    obtain ⟨a, b, -⟩ := fst_lt j k r h
    obtain ⟨r', e, hr⟩ := fst_some j k q h1 (by omega) hb
    rw [h] at e
    cases e
    omega
def dupB (f : Nat → Nat) (x j : Nat) : Bool := (fst (fun i => decide (orb f x i = orb f x j)) j 0).isSome
def cyM (f : Nat → Nat) (x : Nat) : Nat × Nat := match fst (dupB f x) 4097 0 with
  | none => (0, 1)
  | some j => (match fst (fun i => decide (orb f x i = orb f x j)) j 0 with
    | none => (0, 1)
    | some i => (i, j - i))
theorem cyM_ok {f : Nat → Nat} {x N : Nat} (hN : N ≤ 4096) (h : ∀ k, orb f x k < N) : Cyc f x (cyM f x).1 (cyM f x).2 ∧ (cyM f x).1 + (cyM f x).2 ≤ N := by
  obtain ⟨i, j, h1, h2, h3⟩ := pig N (orb f x) (fun i _ => h i)
  have hd : dupB f x j = true := by
    obtain ⟨r, e, -⟩ := fst_some (bad := fun i => decide (orb f x i = orb f x j)) j 0 i (by omega) (by omega) (by simp [h3])
    unfold dupB
    rw [e]
    rfl
  obtain ⟨J, hJ, hJj⟩ := fst_some (bad := dupB f x) 4097 0 j (by omega) (by omega) hd
  have hJd := (fst_lt _ _ _ hJ).2.2
  have hleast := fst_least _ _ _ hJ
  unfold dupB at hJd
  obtain ⟨a, ha⟩ := Option.isSome_iff_exists.mp hJd
  obtain ⟨-, ha2, ha3⟩ := fst_lt _ _ _ ha
  have e : cyM f x = (a, J - a) := by
    unfold cyM
    rw [hJ]
    simp only
    rw [ha]
  rw [e]
  have ha3 : orb f x a = orb f x J := of_decide_eq_true ha3
  refine ⟨⟨by show 1 ≤ J - a; omega, ?_, ?_⟩, by show a + (J - a) ≤ N; omega⟩
  · show orb f x (a + (J - a)) = orb f x a
    rw [show a + (J - a) = J by omega, ha3]
  · intro i' j' hij hj' heq
    have hj' : j' < J := by
      have : j' < a + (J - a) := hj'
      omega
    have := hleast j' (by omega) hj'
    unfold dupB at this
    obtain ⟨r, e, -⟩ := fst_some (bad := fun i => decide (orb f x i = orb f x j')) j' 0 i' (by omega) (by omega) (by simp [heq])
    rw [e] at this
    cases this
/-! the spec of the climbs -/
def clM (n : Nat) (l : Nat → Nat → Nat → Nat) (tl : Option Nat) (wd : Nat) (way : Int32) (row : Nat) : Nat × Nat := cyM (nxt n (lf l tl wd) way) row
def clR (n : Nat) (l : Nat → Nat → Nat → Nat) (tl : Option Nat) (wd : Nat) (way : Int32) (row : Nat) : Nat := orb (nxt n (lf l tl wd) way) row (clM n l tl wd way row).1
def sClimb (n : Nat) (l : Nat → Nat → Nat → Nat) (r way x : Int32) : Int32 := if inR n r ∧ inW 0 1 way ∧ inW 0 2 x then (if x = 0 then (if (clM n l none 0 way (tN r)).2 = 1 then nI (clR n l none 0 way (tN r)) else -1) else if x = 1 then nI (clM n l none 0 way (tN r)).1 else nI (clM n l none 0 way (tN r)).2) else -1002
def sLeaving (n : Nat) (l : Nat → Nat → Nat → Nat) (p r : Int32) : Int32 := if inP n p then (if inR n r then (if (clM n l (some (tN p)) 0 0 (tN r)).2 = 1 then 100 + nI (sumK (tN r) n) - nI (sumK (clR n l (some (tN p)) 0 0 (tN r)) n) else -1) else -1002) else -1001
def gnV (n : Nat) (l : Nat → Nat → Nat → Nat) (wo : Nat → Nat) (p w : Nat) (aim : Int32) : Int32 := if (clM n l (if w = 4 then none else some p) w 0 (4 ^ n - 1)).2 = 1 then (if aim ≤ nI (sumK (clR n l (if w = 4 then none else some p) w 0 (4 ^ n - 1)) n) then nI (wo p) else 0) - 10 * nI (dd (clR n l (if w = 4 then none else some p) w 0 (4 ^ n - 1)) p) else 0
def slyF (g : Nat → Int32) : Nat → Nat → Int32 × Int32 → Int32 × Int32
  | 0, _, b => b
  | k + 1, w, b => slyF g k (w + 1) (if b.2 < g w then (nI w, g w) else b)
def sSly (n : Nat) (l : Nat → Nat → Nat → Nat) (wo : Nat → Nat) (p aim x : Int32) : Int32 := if inP n p then (if inW 0 18 aim ∧ inW 0 1 x then (if x = 0 then (slyF (fun w => gnV n l wo (tN p) w aim) 4 0 (4, gnV n l wo (tN p) 4 aim)).1 else 1000 + (slyF (fun w => gnV n l wo (tN p) w aim) 4 0 (4, gnV n l wo (tN p) 4 aim)).2) else -1002) else -1001
section CLB
variable {n : Nat} {l : Nat → Nat → Nat → Nat} {I : Sd → Prop} {c m : Sd} {pt wo : Nat → Nat}
theorem CK.ch (hK : CK n l I) (hc : I c) : (1 ≤ n ∧ n ≤ 6) ∧ (∀ p row day, l p row day < 4) ∧ c.1 7 0 1 = nI n := by
  obtain ⟨h1, h2, h3, -⟩ := hK.1 (c.1 20 0)
  exact ⟨h1, h2, h3 c ⟨hc, fun _ => rfl⟩⟩
theorem clM_ok (h6 : n ≤ 6) (hl : ∀ p row day, l p row day < 4) {tl : Option Nat} {wd : Nat} (hw : tl ≠ none → wd < 4) (way : Int32) {row : Nat} (hr : row < 4 ^ n) : Cyc (nxt n (lf l tl wd) way) row (clM n l tl wd way row).1 (clM n l tl wd way row).2 ∧ (clM n l tl wd way row).1 + (clM n l tl wd way row).2 ≤ 4096 ∧ clR n l tl wd way row < 4 ^ n := by
  have h := cyM_ok (f := nxt n (lf l tl wd) way) (x := row) (pow4_le h6) (orb_lt (lf_lt hl hw) hr)
  exact ⟨h.1, Nat.le_trans h.2 (pow4_le h6), orb_lt (lf_lt hl hw) hr _⟩
theorem c_startM (hK : CK n l I) (hc : I c) {row wd : Nat} {tl : Option Nat} (hr : row < 4 ^ n) (ht : ∀ q, tl = some q → q < 2 ^ 31) (hw : tl ≠ none → wd < 4) (way : Int32) : Ctr 5 4 [vR false 20 0, vI (nI row), vI way, vI (optI tl), vI (nI wd)] (c, m) (QS I m (if (clM n l tl wd way row).2 = 1 then nI (clR n l tl wd way row) else -1) (nI (clM n l tl wd way row).1) (nI (clM n l tl wd way row).2)) := by
  obtain ⟨⟨h1, h6⟩, hl, -⟩ := hK.ch hc
  obtain ⟨a, b, -⟩ := clM_ok h6 hl hw way hr
  exact c_start hK hc hr ht hw way a b
theorem c_climb (hK : CK n l I) (hc : I c) (r way x : Int32) : Ctr 6 72 [vR false 0 0, vI r, vI way, vI x] (c, m) (PQ I m (sClimb n l r way x)) := by
  obtain ⟨⟨h1, h6⟩, hl, hn⟩ := hK.ch hc
  have hr6 := pow4_le h6
  refine ctr_ev 60 [] rfl rfl (iF (c_hasRow h6 hn r) (by decide) (bI (fun hr => ?_) (fun hr => ?_)))
  · rw [bi_0] at hr
    refine pqi hc ?_
    rw [sClimb, if_neg (fun z => hr z.1)]
  · rw [bi_0, Classical.not_not] at hr
    refine iF (c_within _ way 0 1) (by decide) (bI (fun hw => ?_) (fun hw => ?_))
    · rw [bi_0] at hw
      refine pqi hc ?_
      rw [sClimb, if_neg (fun z => hw z.2.1)]
    · rw [bi_0, Classical.not_not] at hw
      refine iF (c_within _ x 0 2) (by decide) (bI (fun hx => ?_) (fun hx => ?_))
      · rw [bi_0] at hx
        refine pqi hc ?_
        rw [sClimb, if_neg (fun z => hx z.2.2)]
      · rw [bi_0, Classical.not_not] at hx
        rw [sClimb, if_pos ⟨hr, hw, hx⟩]
        obtain ⟨hk, he⟩ := clampP (pow4_pos n) (by omega) hr
        generalize tN r = row at hk he ⊢
        subst he
        refine iC (c_startM hK hc (wd := 0) (tl := none) hk (fun q hq => by cases hq) (fun z => absurd rfl z) way) (by decide) ?_
        rintro _ _ ⟨c2, rfl, hc2, e1, e2, e3, rfl⟩
        refine bI (fun h0 => ?_) (fun h0 => ?_)
        · refine pqi hc2 ?_
          rw [if_pos h0]
          exact e1
        · rw [if_neg h0]
          refine bI (fun h2 => ?_) (fun h2 => ?_)
          · refine pqi hc2 ?_
            rw [if_pos h2]
            exact e2
          · refine pqi hc2 ?_
            rw [if_neg h2]
            exact e3
theorem c_leaving (hK : CK n l I) (hc : I c) (p r : Int32) : Ctr 6 74 [vR false 0 0, vI p, vI r] (c, m) (PQ I m (sLeaving n l p r)) := by
  obtain ⟨⟨h1, h6⟩, hl, hn⟩ := hK.ch hc
  have hr6 := pow4_le h6
  refine ctr_ev 60 [] rfl rfl (iF (c_has hn p) (by decide) (bI (fun hp => ?_) (fun hp => ?_)))
  · rw [bi_0] at hp
    refine pqi hc ?_
    rw [sLeaving, if_neg hp]
  · rw [bi_0, Classical.not_not] at hp
    rw [sLeaving, if_pos hp]
    refine iF (c_hasRow h6 hn r) (by decide) (bI (fun hr => ?_) (fun hr => ?_))
    · rw [bi_0] at hr
      refine pqi hc ?_
      rw [if_neg hr]
    · rw [bi_0, Classical.not_not] at hr
      rw [if_pos hr]
      obtain ⟨hk, he⟩ := clampP h1 (by omega) hp
      obtain ⟨hk2, he2⟩ := clampP (pow4_pos n) (by omega) hr
      generalize tN p = q at hk he ⊢
      generalize tN r = row at hk2 he2 ⊢
      subst he he2
      obtain ⟨-, -, hR⟩ := clM_ok h6 hl (tl := some q) (wd := 0) (fun _ => by decide) 0 hk2
      refine iC (c_startM hK hc (wd := 0) (tl := some q) hk2 (fun q' hq => by cases hq; omega) (fun _ => by decide) 0) (by decide) ?_
      rintro _ _ ⟨c2, rfl, hc2, e1, e2, e3, rfl⟩
      have hs1 := sumK_n (row := row) (n := n) hk2 6 h6
      by_cases h1' : (clM n l (some q) 0 0 row).2 = 1
      · rw [if_pos h1'] at e1 ⊢
        refine bF (c := c2.1 20 0 1 = -1) (by rw [e1]; exact nI_m1 (by omega)) ?_
        refine iF (c_sum _ (row := row) (by omega)) (by decide) ?_
        have hs2 := sumK_n hR 6 h6
        have hz := c_sum (c2, m) (row := clR n l (some q) 0 0 row) (by omega)
        rw [← e1] at hz
        refine iF hz (by decide) ?_
        refine pqi hc2 ?_
        rw [hs1, hs2]
      · rw [if_neg h1'] at e1 ⊢
        refine bT (c := c2.1 20 0 1 = -1) e1 ?_
        exact pqi hc2 rfl
theorem c_gain (hK : CK n l I) (hO : OH pt wo I) (hc : I c) {p w : Nat} (hp : p < n) (hw : w ≤ 4) (aim : Int32) : Ctr 6 85 [vR false 0 0, vI (nI p), vI (nI w), vI aim] (c, m) (PQ I m (gnV n l wo p w aim)) := by
  obtain ⟨⟨h1, h6⟩, hl, hn⟩ := hK.ch hc
  obtain ⟨hb, ho⟩ := hO
  have hr6 := pow4_le h6
  have hr1 := pow4_pos n
  have main : ∀ tl : Option Nat, tl = (if w = 4 then none else some p) → Go 6 85 none 24 [some (vR false 0 0), some (vI (nI p)), some (vI (nI w)), some (vI aim), none] [vI (optI tl), vI 0, vI (nI (4 ^ n) - 1), vR false 20 0] (c, m) (PQ I m (gnV n l wo p w aim)) := by
    intro tl htl
    have hwt : tl ≠ none → w < 4 := by
      intro z
      rw [htl] at z
      by_cases h4 : w = 4
      · rw [if_pos h4] at z
        exact absurd rfl z
      · omega
    have htq : ∀ q, tl = some q → q < 2 ^ 31 := by
      intro q hq
      rw [htl] at hq
      split at hq
      · cases hq
      · cases hq
        omega
    obtain ⟨-, -, hR⟩ := clM_ok h6 hl hwt 0 (row := 4 ^ n - 1) (by omega)
    have hst := c_startM (m := m) hK hc (row := 4 ^ n - 1) (wd := w) (tl := tl) (by omega) htq hwt 0
    rw [← nI_sub1 hr1] at hst
    unfold gnV
    rw [← htl]
    refine go_ev 60 [] (iC hst (by decide) ?_)
    rintro _ _ ⟨c2, rfl, hc2, e1, e2, e3, rfl⟩
    by_cases h1' : (clM n l tl w 0 (4 ^ n - 1)).2 = 1
    · rw [if_pos h1'] at e1 ⊢
      refine bF (c := c2.1 20 0 1 = -1) (by rw [e1]; exact nI_m1 (by omega)) ?_
      have hs2 := sumK_n hR 6 h6
      have hz := c_sum (c2, m) (row := clR n l tl w 0 (4 ^ n - 1)) (by omega)
      rw [← e1, hs2] at hz
      have hd := c_deedN (c2, m) (row := clR n l tl w 0 (4 ^ n - 1)) (p := p) (by omega) (by omega)
      rw [← e1] at hd
      refine iF hz (by decide) ?_
      refine bI (fun ha => ?_) (fun ha => ?_)
      · refine iF hd (by decide) ?_
        refine pqi hc2 ?_
        rw [if_neg (Int32.not_le.mpr ha)]
      · refine dI (vp6 (by omega)) ?_
        refine iF hd (by decide) ?_
        refine pqi hc2 ?_
        rw [if_pos (Int32.not_lt.mp ha)]
        show c2.1 9 (nI p).toNatClampNeg 4 - _ = _
        rw [nI_clamp (by omega), (ho c2 hc2 p (by omega)).2]
    · rw [if_neg h1'] at e1 ⊢
      refine bT (c := c2.1 20 0 1 = -1) e1 ?_
      exact pqi hc2 rfl
  refine ctr_ev 60 [24] rfl rfl (iF (c_rows h6 hn) (by decide) ?_)
  refine bI (fun h4 => ?_) (fun h4 => ?_)
  · have h4 : w = 4 := (nIeq (by omega) (by decide)).mp h4
    exact main none (by rw [if_pos h4])
  · have h4 : ¬ w = 4 := fun z => h4 (by rw [z]; rfl)
    exact main (some p) (by rw [if_neg h4])
theorem c_sly (hK : CK n l I) (hO : OH pt wo I) (hc : I c) (p aim x : Int32) : Ctr 7 81 [vR false 0 0, vI p, vI aim, vI x] (c, m) (PQ I m (sSly n l wo p aim x)) := by
  obtain ⟨⟨h1, h6⟩, hl, hn⟩ := hK.ch hc
  refine ctr_ev 60 [53] rfl rfl (iF (c_has hn p) (by decide) (bI (fun hp => ?_) (fun hp => ?_)))
  · rw [bi_0] at hp
    refine pqi hc ?_
    rw [sSly, if_neg hp]
  · rw [bi_0, Classical.not_not] at hp
    rw [sSly, if_pos hp]
    refine iF (c_within _ aim 0 18) (by decide) (bI (fun ha => ?_) (fun ha => ?_))
    · rw [bi_0] at ha
      refine pqi hc ?_
      rw [if_neg (fun z => ha z.1)]
    · rw [bi_0, Classical.not_not] at ha
      refine iF (c_within _ x 0 1) (by decide) (bI (fun hx => ?_) (fun hx => ?_))
      · rw [bi_0] at hx
        refine pqi hc ?_
        rw [if_neg (fun z => hx z.2)]
      · rw [bi_0, Classical.not_not] at hx
        rw [if_pos ⟨ha, hx⟩]
        obtain ⟨hk, he⟩ := clampP h1 (by omega) hp
        generalize tN p = q at hk he ⊢
        subst he
        generalize hg : (fun w => gnV n l wo q w aim) = g
        have hgw : ∀ w, gnV n l wo q w aim = g w := fun w => by rw [← hg]
        rw [hgw 4]
        have key : ∀ (j k : Nat) (y : Int32) (b : Int32 × Int32) (v7 : Option PV) (c : Sd), k + j = 4 → y = nI k → slyF g 4 0 (4, g 4) = slyF g j k b → I c → Go 7 81 none 53 [some (vR false 0 0), some (vI (nI q)), some (vI aim), some (vI x), some (vI b.1), some (vI b.2), some (vI y), v7] [] (c, m) (PQ I m (if x = 0 then (slyF g 4 0 (4, g 4)).1 else 1000 + (slyF g 4 0 (4, g 4)).2)) := by
          intro j
          induction j with
          | zero =>
            intro k y b v7 c hk hy hf hc
            subst hy
            refine go_ev 40 [53] (bT (by rw [show (3 : Int32) = nI 3 from rfl, nIlt (by decide) (by omega)]; omega) ?_)
            refine bI (fun h0 => ?_) (fun h0 => ?_)
            · refine pqi hc ?_
              rw [if_pos h0, hf]
              rfl
            · refine pqi hc ?_
              rw [if_neg h0, hf]
              rfl
          | succ j ih =>
            intro k y b v7 c hk hy hf hc
            subst hy
            refine go_ev 40 [53] (bF (by rw [show (3 : Int32) = nI 3 from rfl, nIlt (by decide) (by omega)]; omega) ?_)
            have hgn := c_gain (m := m) hK hO hc (p := q) (w := k) (by omega) (by omega) aim
            rw [hgw k] at hgn
            refine iC hgn (by decide) ?_
            rintro _ _ ⟨c2, rfl, hc2, rfl⟩
            refine bI (fun h0 => ?_) (fun h0 => ?_)
            · refine ih (k + 1) _ b _ c2 (by omega) (nI_succ k).symm ?_ hc2
              rw [hf]
              simp only [slyF]
              rw [if_neg (Int32.not_lt.mpr h0)]
            · refine ih (k + 1) _ (nI k, g k) _ c2 (by omega) (nI_succ k).symm ?_ hc2
              rw [hf]
              simp only [slyF]
              rw [if_pos (Int32.not_le.mp h0)]
        have hgn := c_gain (m := m) hK hO hc (p := q) (w := 4) (by omega) (by omega) aim
        rw [hgw 4] at hgn
        refine iC hgn (by decide) ?_
        rintro _ _ ⟨c2, rfl, hc2, rfl⟩
        exact key 4 0 0 (4, g 4) none c2 (by omega) rfl rfl hc2
end CLB
end
section
/-! the model: its numbers, and its calls over what its terms let -/
theorem wide_lt (a b : Int32) : a.toInt64 < b.toInt64 ↔ a < b := by rw [Int64.lt_iff_toInt_lt, Int32.lt_iff_toInt_lt, Int32.toInt_toInt64, Int32.toInt_toInt64]
theorem m_in (w : Wd) (x lo hi : Int32) : Fn 0 92 [vL x.toInt64, vL lo.toInt64, vL hi.toInt64] w w (some (vI (bi (lo ≤ x ∧ x ≤ hi)))) := by
  refine ctr_ev 20 [] rfl rfl (bI (fun h1 => ?_) (fun h1 => bI (fun h2 => ?_) (fun h2 => ?_)))
  · rw [lg_cmp_lt, wide_lt] at h1
    exact And.intro rfl (And.intro rfl (by rw [bi_f (fun z => Int32.not_le.mpr h1 z.1)]))
  · rw [lg_cmp_gt, wide_lt] at h2
    exact And.intro rfl (And.intro rfl (by rw [bi_f (fun z => Int32.not_le.mpr h2 z.2)]))
  · rw [lg_cmp_lt, wide_lt] at h1
    rw [lg_cmp_gt, wide_lt] at h2
    exact And.intro rfl (And.intro rfl (by rw [bi_t ⟨Int32.not_lt.mp h1, Int32.not_lt.mp h2⟩]))
theorem m_one (w : Wd) (x : Int32) : Fn 0 93 [vI x] w w (some (vI (bi (¬ x = 0)))) := by
  refine ctr_ev 20 [] rfl rfl (bI (fun h => ?_) (fun h => ?_))
  · exact And.intro rfl (by rw [bi_f (fun z => z h)])
  · exact And.intro rfl (by rw [bi_t h])
theorem m_deed (w : Wd) {row p : Nat} (hr : row < 2 ^ 31) (hp : p < 6) : Fn 0 121 [vI (nI row), vI (nI p)] w w (some (vI (nI (dd row p)))) := by
  refine ctr_ev 20 [] rfl rfl (bF (nI_ge0 (by omega)) (bT ((nIlt (by omega) (by decide)).mpr hp) ?_))
  refine And.intro rfl ?_
  rw [nI_dd hr (by omega)]
def PM (J : Sd → Prop) (c : Sd) (r : Int32) : Wd → Option PV → Prop := fun w' r' => ∃ m' : Sd, w' = (c, m') ∧ J m' ∧ r' = some (vI r)
theorem mqi {J : Sd → Prop} {c m : Sd} {r r' : Int32} (hm : J m) (h : r' = r) : PM J c r (c, m) (some (vI r')) := ⟨m, rfl, hm, by rw [h]⟩
def MH (n : Nat) (l : Nat → Nat → Nat → Nat) (J : Sd → Prop) : Prop :=
  (1 ≤ n ∧ n ≤ 6) ∧ (∀ p row day, l p row day < 4) ∧ (∀ m, J m → m.1 0 0 0 = nI n) ∧
  (∀ c m, J m → ∀ p row day, p < n → row < 4 ^ n → 1 ≤ day → day ≤ 9 → Ctr 3 125 [vR true 0 0, vI (nI p), vI (nI row), vI (nI day)] (c, m) (PM J c (nI (l p row day))))
section MO1
variable {n : Nat} {l : Nat → Nat → Nat → Nat} {J : Sd → Prop} {c m : Sd}
theorem m_noPerson (hn : m.1 0 0 0 = nI n) (x : Int32) : Fn 1 96 [vR true 0 0, vI x] (c, m) (c, m) (some (vI (bi (¬ inP n x)))) := by
  have h : Fn 0 92 [vL x.toInt64, vL (0 : Int32).toInt64, vL (m.1 0 0 0 - 1).toInt64] (c, m) (c, m) (some (vI (bi (inP n x)))) := by
    rw [hn]
    exact m_in _ _ _ _
  refine ctr_ev 20 [] rfl rfl (iF h (by decide) (bI (fun h => ?_) (fun h => ?_)))
  · rw [bi_0] at h
    exact And.intro rfl (And.intro rfl (by rw [bi_t h]))
  · rw [bi_0] at h
    exact And.intro rfl (And.intro rfl (by rw [bi_f h]))
theorem m_allRows (h6 : n ≤ 6) (hn : m.1 0 0 0 = nI n) : Fn 0 97 [vR true 0 0] (c, m) (c, m) (some (vI (nI (4 ^ n)))) := by
  have h : Fn 0 97 [vR true 0 0] (c, m) (c, m) (some (vI ((1 : Int32) <<< ((2 * m.1 0 0 0) &&& 31)))) := ctr_ev 20 [] rfl rfl (And.intro rfl rfl)
  rw [hn, nI_rows h6] at h
  exact h
theorem m_noRow (h6 : n ≤ 6) (hn : m.1 0 0 0 = nI n) (x : Int32) : Fn 1 98 [vR true 0 0, vI x] (c, m) (c, m) (some (vI (bi (¬ inR n x)))) := by
  refine ctr_ev 20 [] rfl rfl (iF (m_allRows h6 hn) (by decide) (iF (m_in _ _ _ _) (by decide) (bI (fun h => ?_) (fun h => ?_))))
  · rw [bi_0] at h
    exact And.intro rfl (And.intro rfl (by rw [bi_t h]))
  · rw [bi_0] at h
    exact And.intro rfl (And.intro rfl (by rw [bi_f h]))
theorem m_isDay (w : Wd) (x : Int32) : Fn 1 99 [vI x] w w (some (vI (bi (inW 1 9 x)))) :=
  ctr_ev 20 [] rfl rfl (iF (m_in _ x 1 9) (by decide) (And.intro zok_bi (And.intro rfl rfl)))
theorem m_isGoal (w : Wd) (x : Int32) : Fn 1 156 [vI x] w w (some (vI (bi (inW 1 500 x)))) :=
  ctr_ev 20 [] rfl rfl (iF (m_in _ x 1 500) (by decide) (And.intro zok_bi (And.intro rfl rfl)))
theorem m_noSet (h6 : n ≤ 6) (hn : m.1 0 0 0 = nI n) (x : Int32) : Fn 1 161 [vR true 0 0, vI x] (c, m) (c, m) (some (vI (bi (¬ inS n x)))) := by
  have h : Fn 0 92 [vL x.toInt64, vL (0 : Int32).toInt64, vL (((1 : Int32) <<< (m.1 0 0 0 &&& 31)) - 1).toInt64] (c, m) (c, m) (some (vI (bi (inS n x)))) := by
    rw [hn, nI_sets h6]
    exact m_in _ _ _ _
  refine ctr_ev 20 [] rfl rfl (iF h (by decide) (bI (fun h => ?_) (fun h => ?_)))
  · rw [bi_0] at h
    exact And.intro rfl (And.intro rfl (by rw [bi_t h]))
  · rw [bi_0] at h
    exact And.intro rfl (And.intro rfl (by rw [bi_f h]))
theorem m_notSo (hH : MH n l J) (hm : J m) {row day s : Nat} (hr : row < 4 ^ n) (hd1 : 1 ≤ day) (hd9 : day ≤ 9) (hs : s < 2 ^ 31) : Ctr 4 132 [vR true 0 0, vI (nI row), vI (nI day), vI (nI s)] (c, m) (PM J c (optI (fst (badA l day row s) n 0))) := by
  obtain ⟨⟨h1, h6⟩, hl, hn, hle⟩ := id hH
  have hr6 := pow4_le h6
  have key : ∀ (j k : Nat) (x : Int32) (m : Sd), k + j = n → x = nI k → J m → fst (badA l day row s) n 0 = fst (badA l day row s) j k → Go 4 132 none 3 [some (vR true 0 0), some (vI (nI row)), some (vI (nI day)), some (vI (nI s)), some (vI x)] [] (c, m) (PM J c (optI (fst (badA l day row s) n 0))) := by
    intro j
    induction j with
    | zero =>
      intro k x m hk hx hm hf
      refine go_ev 30 [3] (bT (c := m.1 0 0 0 ≤ x) (by rw [hn m hm, hx, nIle (by omega) (by omega)]; omega) ?_)
      refine mqi hm ?_
      rw [hf]
      rfl
    | succ j ih =>
      intro k x m hk hx hm hf
      subst hx
      refine go_ev 30 [3] (bF (c := m.1 0 0 0 ≤ nI k) (by rw [hn m hm, nIle (by omega) (by omega)]; omega) ?_)
      have hbit := nI_bit (s := s) (p := k) hs (by omega)
      refine bI (c := (nI s >>> (nI k &&& 31)) &&& 1 = 0) (fun h => ?_) (fun h => ?_)
      · have h : ¬ s.testBit k = true := by
          rw [hbit, show (0 : Int32) = nI 0 from rfl, nIeq (by omega) (by decide)] at h
          rw [Nat.testBit_eq_decide_div_mod_eq, decide_eq_true_eq]
          omega
        refine iF (m_deed _ (by omega) (by omega)) (by decide) ?_
        refine iC (hle c m hm k row day (by omega) hr hd1 hd9) (by decide) ?_
        rintro _ _ ⟨m', rfl, hm', rfl⟩
        have := hl k row day
        have := dd_lt row k
        refine bI (fun h2 => ?_) (fun h2 => ?_)
        · rw [nIeq (by omega) (by omega)] at h2
          refine ih (k + 1) _ m' (by omega) (nI_succ k).symm hm' ?_
          rw [hf]
          simp [fst, badA, h2]
        · rw [nIeq (by omega) (by omega)] at h2
          refine mqi hm' ?_
          rw [hf]
          simp [fst, badA, h, h2, optI]
      · have h : s.testBit k = true := by
          rw [hbit, show (0 : Int32) = nI 0 from rfl, nIeq (by omega) (by decide)] at h
          rw [Nat.testBit_eq_decide_div_mod_eq, decide_eq_true_eq]
          omega
        refine ih (k + 1) _ m (by omega) (nI_succ k).symm hm ?_
        rw [hf]
        simp [fst, badA, h]
  refine ctr_ev 30 [3] rfl rfl ?_
  exact key n 0 0 m (by omega) rfl hm rfl
theorem opt_ge {o : Option Nat} (h : ∀ k, o = some k → k < 2 ^ 31) : (0 : Int32) ≤ optI o ↔ o.isSome = true := by
  cases o with
  | none => exact ⟨fun z => absurd z (by decide), fun z => by cases z⟩
  | some k => exact ⟨fun _ => rfl, fun _ => nI_pos' (h k rfl)⟩
theorem opt_lt0 {o : Option Nat} (h : ∀ k, o = some k → k < 2 ^ 31) : optI o < 0 ↔ o = none := by
  cases o with
  | none => exact ⟨fun _ => rfl, fun _ => by decide⟩
  | some k => exact ⟨fun z => absurd z (nI_pos (h k rfl)), fun z => by cases z⟩
theorem nb_lt {n : Nat} {l : Nat → Nat → Nat → Nat} (h6 : n ≤ 6) {day row s : Nat} : ∀ k, fst (badA l day row s) n 0 = some k → k < 2 ^ 31 := fun k h => by
  have := fst_lt _ _ _ h
  omega
theorem gd_iff {n : Nat} {l : Nat → Nat → Nat → Nat} {s row : Nat} : gd n l s row = true ↔ ¬ (fst (badA l 9 row s) n 0).isSome = true := by
  unfold gd
  cases fst (badA l 9 row s) n 0 <;> simp
theorem m_mayBe (hH : MH n l J) (hm : J m) {s : Nat} (hs : s < 2 ^ 31) (i : Int32) : Ctr 5 134 [vR true 0 0, vI (nI s), vI i] (c, m) (PM J c (sMay n l s i)) := by
  obtain ⟨⟨h1, h6⟩, hl, hn, hle⟩ := id hH
  have hr6 := pow4_le h6
  have key : ∀ (j k f : Nat) (x a : Int32) (m : Sd), k + j = 4 ^ n → x = nI k → a = nI f → J m → sMay n l s i = mayF (gd n l s) i j k f → Go 5 134 none 5 [some (vR true 0 0), some (vI (nI s)), some (vI i), some (vI a), some (vI x)] [] (c, m) (PM J c (sMay n l s i)) := by
    intro j
    induction j with
    | zero =>
      intro k f x a m hk hx ha hm he
      refine go_ev 30 [5] (iF (m_allRows h6 (hn m hm)) (by decide) (bT (by rw [hx, nIle (by omega) (by omega)]; omega) ?_))
      refine bI (fun h => ?_) (fun h => ?_)
      · refine mqi hm ?_
        rw [he, ha]
        simp only [mayF, if_pos h]
      · refine mqi hm ?_
        rw [he]
        simp only [mayF, if_neg h]
    | succ j ih =>
      intro k f x a m hk hx ha hm he
      subst hx ha
      simp only [mayF] at he
      refine go_ev 40 [5] (iF (m_allRows h6 (hn m hm)) (by decide) (bF (by rw [nIle (by omega) (by omega)]; omega) ?_))
      refine iC (m_notSo hH hm (row := k) (day := 9) (by omega) (by decide) (by decide) hs) (by decide) ?_
      rintro _ _ ⟨m', rfl, hm', rfl⟩
      refine bI (fun h => ?_) (fun h => ?_)
      · rw [opt_ge (nb_lt h6)] at h
        rw [if_neg (fun z => gd_iff.mp z h)] at he
        exact ih (k + 1) f _ _ m' (by omega) (nI_succ k).symm rfl hm' he
      · rw [opt_ge (nb_lt h6)] at h
        rw [if_pos (gd_iff.mpr h)] at he
        refine bI (fun h2 => ?_) (fun h2 => ?_)
        · rw [if_pos h2] at he
          exact mqi hm' he.symm
        · rw [if_neg h2] at he
          exact ih (k + 1) (f + 1) _ _ m' (by omega) (nI_succ k).symm (nI_succ f).symm hm' he
  refine ctr_ev 30 [5] rfl rfl ?_
  exact key (4 ^ n) 0 0 0 0 m (by omega) rfl rfl hm rfl
theorem m_settled (hH : MH n l J) (hm : J m) (i : Int32) : Ctr 6 135 [vR true 0 0, vI i] (c, m) (PM J c (sMay n l 0 i)) := by
  refine ctr_ev 30 [] rfl rfl (iC (m_mayBe hH hm (s := 0) (by decide) i) (by decide) ?_)
  rintro _ _ ⟨m', rfl, hm', rfl⟩
  exact mqi hm' rfl
theorem m_possible (hH : MH n l J) (hm : J m) (s i : Int32) : Ctr 6 162 [vR true 0 0, vI s, vI i] (c, m) (PM J c (sPossible n l s i)) := by
  obtain ⟨⟨h1, h6⟩, hl, hn, -⟩ := id hH
  have h64 := pow2_le h6
  refine ctr_ev 40 [] rfl rfl (iF (m_noSet h6 (hn m hm) s) (by decide) (bI (fun h => ?_) (fun h => ?_)))
  · rw [bi_0, Classical.not_not] at h
    obtain ⟨hk, he⟩ := clampP (pow2_pos n) (by omega) h
    rw [sPossible, if_pos h]
    generalize tN s = k at hk he ⊢
    subst he
    refine iC (m_mayBe hH hm (s := k) (by omega) i) (by decide) ?_
    rintro _ _ ⟨m', rfl, hm', rfl⟩
    exact mqi hm' rfl
  · rw [bi_0, Classical.not_not] at h
    refine mqi hm ?_
    rw [sPossible, if_neg h]
theorem and_bit : ∀ s, s < 64 → ∀ p, p < 6 → s.testBit p = true → nI s &&& (((1 : Int32) <<< (nI p &&& 31)) ^^^ (-1)) = nI (s - 2 ^ p) := by decide +kernel
theorem m_telling (hH : MH n l J) (hm : J m) (s p : Int32) : Ctr 6 164 [vR true 0 0, vI s, vI p] (c, m) (PM J c (sTelling n l s p)) := by
  obtain ⟨⟨h1, h6⟩, hl, hn, -⟩ := id hH
  have h64 := pow2_le h6
  refine ctr_ev 60 [] rfl rfl (iF (m_noSet h6 (hn m hm) s) (by decide) (bI (fun h => ?_) (fun h => ?_)))
  · rw [bi_0, Classical.not_not] at h
    refine iF (m_noPerson (hn m hm) p) (by decide) (bI (fun hp => ?_) (fun hp => ?_))
    · rw [bi_0, Classical.not_not] at hp
      rw [sTelling, if_pos ⟨h, hp⟩]
      obtain ⟨hk, he⟩ := clampP (pow2_pos n) (by omega) h
      obtain ⟨hk2, he2⟩ := clampP h1 (by omega) hp
      generalize tN s = k at hk he ⊢
      generalize tN p = q at hk2 he2 ⊢
      subst he he2
      have hbit := nI_bit (s := k) (p := q) (by omega) (by omega)
      refine bI (c := (nI k >>> (nI q &&& 31)) &&& 1 = 0) (fun hb => ?_) (fun hb => ?_)
      · have hb : ¬ k.testBit q = true := by
          rw [hbit, show (0 : Int32) = nI 0 from rfl, nIeq (by omega) (by decide)] at hb
          rw [Nat.testBit_eq_decide_div_mod_eq, decide_eq_true_eq]
          omega
        refine mqi hm ?_
        rw [if_neg hb]
      · have hb : k.testBit q = true := by
          rw [hbit, show (0 : Int32) = nI 0 from rfl, nIeq (by omega) (by decide)] at hb
          rw [Nat.testBit_eq_decide_div_mod_eq, decide_eq_true_eq]
          omega
        rw [if_pos hb]
        refine iC (m_mayBe hH hm (s := k) (by omega) (-1)) (by decide) ?_
        rintro _ _ ⟨m', rfl, hm', rfl⟩
        have hx := m_mayBe (c := c) hH hm' (s := k - 2 ^ q) (Nat.lt_of_le_of_lt (Nat.sub_le _ _) (by omega)) (-1)
        rw [← and_bit k (by omega) q (by omega) hb] at hx
        refine iC hx (by decide) ?_
        rintro _ _ ⟨m2, rfl, hm2, rfl⟩
        exact mqi hm2 rfl
    · rw [bi_0, Classical.not_not] at hp
      refine mqi hm ?_
      rw [sTelling, if_neg (fun z => hp z.2)]
  · rw [bi_0, Classical.not_not] at h
    refine mqi hm ?_
    rw [sTelling, if_neg (fun z => h z.1)]
theorem m_lets (hH : MH n l J) (hm : J m) (p r d : Int32) : Ctr 6 126 [vR true 0 0, vI p, vI r, vI d] (c, m) (PM J c (sLets n l p r d)) := by
  obtain ⟨⟨h1, h6⟩, hl, hn, hle⟩ := id hH
  have hr6 := pow4_le h6
  refine ctr_ev 60 [] rfl rfl (iF (m_noPerson (hn m hm) p) (by decide) (bI (fun hp => ?_) (fun hp => ?_)))
  · rw [bi_0, Classical.not_not] at hp
    rw [sLets, if_pos hp]
    refine iF (m_noRow h6 (hn m hm) r) (by decide) (bI (fun hr => ?_) (fun hr => ?_))
    · rw [bi_0, Classical.not_not] at hr
      refine iF (m_isDay _ d) (by decide) (bI (fun hd => ?_) (fun hd => ?_))
      · rw [bi_0] at hd
        refine mqi hm ?_
        rw [if_neg (fun z => hd z.2)]
      · rw [bi_0, Classical.not_not] at hd
        rw [if_pos ⟨hr, hd⟩]
        obtain ⟨hk, he⟩ := clampP h1 (by omega) hp
        obtain ⟨hk2, he2⟩ := clampP (pow4_pos n) (by omega) hr
        obtain ⟨hk3, hk4, he3⟩ := clampW (a := 1) (b := 9) (by decide) hd (by decide)
        generalize tN p = q at hk he ⊢
        generalize tN r = row at hk2 he2 ⊢
        generalize tN d = day at hk3 hk4 he3 ⊢
        subst he he2 he3
        refine iC (hle c m hm q row day hk hk2 hk3 hk4) (by decide) ?_
        rintro _ _ ⟨m2, rfl, hm2, rfl⟩
        exact mqi hm2 rfl
    · rw [bi_0, Classical.not_not] at hr
      refine mqi hm ?_
      rw [if_neg (fun z => hr z.1)]
  · rw [bi_0, Classical.not_not] at hp
    refine mqi hm ?_
    rw [sLets, if_neg hp]
theorem m_judge (hH : MH n l J) (hm : J m) (r d : Int32) : Ctr 6 133 [vR true 0 0, vI r, vI d] (c, m) (PM J c (sJudge n l r d)) := by
  obtain ⟨⟨h1, h6⟩, hl, hn, hle⟩ := id hH
  have hr6 := pow4_le h6
  refine ctr_ev 60 [] rfl rfl (iF (m_noRow h6 (hn m hm) r) (by decide) (bI (fun hr => ?_) (fun hr => ?_)))
  · rw [bi_0, Classical.not_not] at hr
    refine iF (m_isDay _ d) (by decide) (bI (fun hd => ?_) (fun hd => ?_))
    · rw [bi_0] at hd
      refine mqi hm ?_
      rw [sJudge, if_neg (fun z => hd z.2)]
    · rw [bi_0, Classical.not_not] at hd
      rw [sJudge, if_pos ⟨hr, hd⟩]
      obtain ⟨hk2, he2⟩ := clampP (pow4_pos n) (by omega) hr
      obtain ⟨hk3, hk4, he3⟩ := clampW (a := 1) (b := 9) (by decide) hd (by decide)
      generalize tN r = row at hk2 he2 ⊢
      generalize tN d = day at hk3 hk4 he3 ⊢
      subst he2 he3
      refine iC (m_notSo hH hm (s := 0) hk2 hk3 hk4 (by decide)) (by decide) ?_
      rintro _ _ ⟨m2, rfl, hm2, rfl⟩
      exact mqi hm2 rfl
  · rw [bi_0, Classical.not_not] at hr
    refine mqi hm ?_
    rw [sJudge, if_neg (fun z => hr z.1)]
end MO1
end
section
/-! the model's calls, second part -/
theorem shl_mul {q : Nat} (hq : q < 6) (x : Int32) : x <<< ((2 * nI q) &&& 31) = x * nI (4 ^ q) := by
  apply Int32.toBitVec_inj.mp
  apply BitVec.eq_of_toNat_eq
  have h1 : 2 * nI q = nI (2 * q) := by rw [show (2 : Int32) = nI 2 from rfl, pk_mul]
  rw [h1, pk_shl _ _ (2 * q) (sh_l _ (by omega)), Int32.toBitVec_mul, BitVec.toNat_mul, pk_tn (n := 4 ^ q) (by
    have := pow4_le (n := q) (by omega)
    omega), Nat.pow_mul]
theorem dd_mul_le (row q : Nat) : dd row q * 4 ^ q ≤ row := by
  unfold dd
  exact Nat.le_trans (Nat.mul_le_mul_right _ (Nat.mod_le _ _)) (Nat.div_mul_le_self _ _)
theorem nI_put {row q d : Nat} (hq : q < 6) : nI row + (nI d - nI (dd row q)) <<< ((2 * nI q) &&& 31) = nI (wdd row q d) := by
  have h := dd_mul_le row q
  rw [shl_mul hq, Int32.sub_mul, pk_mul, pk_mul]
  unfold wdd
  rw [← nIadd]
  have e : nI row = nI (row - dd row q * 4 ^ q) + nI (dd row q * 4 ^ q) := by
    rw [nIadd]
    congr 1
    omega
  rw [e, Int32.add_assoc, Int32.add_comm (nI (dd row q * 4 ^ q)), Int32.sub_add_cancel]
theorem nI_dig {S v q : Nat} (hq : q < 6) : nI S + nI v <<< ((2 * nI q) &&& 31) = nI (S + v * 4 ^ q) := by
  rw [shl_mul hq, pk_mul, nIadd]
section MO2
variable {n : Nat} {l : Nat → Nat → Nat → Nat} {J : Sd → Prop} {c m : Sd}
theorem m_sumOf (h6 : n ≤ 6) (hn : m.1 0 0 0 = nI n) {row : Nat} (hr : row < 2 ^ 31) : Fn 1 136 [vR true 0 0, vI (nI row)] (c, m) (c, m) (some (vI (nI (sumK row n)))) := by
  have key : ∀ (j k : Nat) (p a : Int32), k + j = n → p = nI k → a = nI (sumK row k) → Go 1 136 none 4 [some (vR true 0 0), some (vI (nI row)), some (vI a), some (vI p)] [] (c, m) (fun w' r' => w' = (c, m) ∧ r' = some (vI (nI (sumK row n)))) := by
    intro j
    induction j with
    | zero =>
      intro k p a hk hp ha
      refine go_ev 20 [4] (bT (c := m.1 0 0 0 ≤ p) (by rw [hn, hp, nIle (by omega) (by omega)]; omega) (And.intro rfl ?_))
      rw [ha, show k = n by omega]
    | succ j ih =>
      intro k p a hk hp ha
      subst hp
      refine go_ev 20 [4] (bF (c := m.1 0 0 0 ≤ nI k) (by rw [hn, nIle (by omega) (by omega)]; omega) ?_)
      refine iF (m_deed _ hr (by omega)) (by decide) ?_
      exact ih (k + 1) _ _ (by omega) (nI_succ k).symm (by rw [ha, nIadd]; rfl)
  refine ctr_ev 20 [4] rfl rfl ?_
  exact key n 0 0 0 (by omega) rfl rfl
theorem m_end (hH : MH n l J) (hm : J m) (x : Int32) : Ctr 6 137 [vR true 0 0, vI x] (c, m) (PM J c (sEnd n l x)) := by
  obtain ⟨⟨h1, h6⟩, hl, hn, hle⟩ := id hH
  have hr6 := pow4_le h6
  refine ctr_ev 60 [18] rfl rfl (iF (m_in _ x 0 1) (by decide) (bI (fun hx => ?_) (fun hx => ?_)))
  · rw [bi_0] at hx
    refine mqi hm ?_
    rw [sEnd, if_neg hx]
  · rw [bi_0, Classical.not_not] at hx
    rw [sEnd, if_pos hx]
    have key : ∀ (j k : Nat) (b : Option Nat) (y a : Int32) (v4 : Option PV) (m : Sd), k + j = 4 ^ n → y = nI k → a = optI b → (∀ q, b = some q → q < 4 ^ n) → J m → endF (gd n l 0) (furS n x) (4 ^ n) 0 none = endF (gd n l 0) (furS n x) j k b → Go 6 137 none 18 [some (vR true 0 0), some (vI x), some (vI a), some (vI y), v4] [] (c, m) (PM J c (optI (endF (gd n l 0) (furS n x) (4 ^ n) 0 none))) := by
      intro j
      induction j with
      | zero =>
        intro k b y a v4 m hk hy ha hb hm hf
        refine go_ev 40 [18] (iF (m_allRows h6 (hn m hm)) (by decide) (bT (by rw [hy, nIle (by omega) (by omega)]; omega) ?_))
        refine mqi hm ?_
        rw [hf, ha]
        rfl
      | succ j ih =>
        intro k b y a v4 m hk hy ha hb hm hf
        subst hy ha
        refine go_ev 60 [18] (iF (m_allRows h6 (hn m hm)) (by decide) (bF (by rw [nIle (by omega) (by omega)]; omega) ?_))
        refine iC (m_notSo hH hm (row := k) (day := 9) (s := 0) (by omega) (by decide) (by decide) (by decide)) (by decide) ?_
        rintro _ _ ⟨m2, rfl, hm2, rfl⟩
        refine bI (fun h => ?_) (fun h => ?_)
        · rw [opt_ge (nb_lt h6)] at h
          have h : ¬ gd n l 0 k = true := fun z => gd_iff.mp z h
          refine ih (k + 1) b _ _ _ m2 (by omega) (nI_succ k).symm rfl hb hm2 ?_
          rw [hf]
          simp only [endF]
          rw [if_neg (by simp [h])]
        · rw [opt_ge (nb_lt h6)] at h
          have h := gd_iff.mpr h
          have hsome : ∀ q, some k = some q → q < 4 ^ n := fun q hq => by cases hq; omega
          have hb31 : ∀ q, b = some q → q < 2 ^ 31 := fun q hq => by have := hb q hq; omega
          refine bI (fun hb0 => ?_) (fun hb0 => ?_)
          · rw [opt_lt0 hb31] at hb0
            subst hb0
            refine bF (by decide) ?_
            refine ih (k + 1) (some k) _ _ _ m2 (by omega) (nI_succ k).symm rfl hsome hm2 ?_
            rw [hf]
            simp only [endF]
            rw [if_pos (by simp [h])]
          · rw [opt_lt0 hb31] at hb0
            obtain ⟨q, rfl⟩ := Option.ne_none_iff_exists'.mp hb0
            have hq := hb q rfl
            have hb1 := sumK_le k n
            have hb2 := sumK_le q n
            have hn2 := hn m2 hm2
            have yes : furS n x k q = true → Go 6 137 none 18 [some (vR true 0 0), some (vI x), some (vI (nI k)), some (vI (nI k + 1)), some (vI 1)] [] (c, m2) (PM J c (optI (endF (gd n l 0) (furS n x) (4 ^ n) 0 none))) := by
              intro hz
              refine ih (k + 1) (some k) _ _ _ m2 (by omega) (nI_succ k).symm rfl hsome hm2 ?_
              rw [hf]
              simp only [endF]
              rw [if_pos (by simp [h, hz])]
            have no : ¬ furS n x k q = true → Go 6 137 none 18 [some (vR true 0 0), some (vI x), some (vI (nI q)), some (vI (nI k + 1)), some (vI 0)] [] (c, m2) (PM J c (optI (endF (gd n l 0) (furS n x) (4 ^ n) 0 none))) := by
              intro hz
              refine ih (k + 1) (some q) _ _ _ m2 (by omega) (nI_succ k).symm rfl hb hm2 ?_
              rw [hf]
              simp only [endF]
              rw [if_neg (by simp [h, hz])]
            refine bI (fun hx0 => ?_) (fun hx0 => ?_)
            · refine iF (m_sumOf h6 hn2 (row := k) (by omega)) (by decide) ?_
              refine iF (m_sumOf h6 hn2 (row := q) (by omega)) (by decide) ?_
              refine bI (fun hz => ?_) (fun hz => ?_)
              · rw [nIle (by omega) (by omega)] at hz
                refine bT rfl (no ?_)
                unfold furS
                rw [if_pos hx0]
                simp; omega
              · rw [nIle (by omega) (by omega)] at hz
                refine bF (by decide) (yes ?_)
                unfold furS
                rw [if_pos hx0]
                simp; omega
            · refine iF (m_sumOf h6 hn2 (row := k) (by omega)) (by decide) ?_
              refine iF (m_sumOf h6 hn2 (row := q) (by omega)) (by decide) ?_
              refine bI (fun hz => ?_) (fun hz => ?_)
              · rw [nIle (by omega) (by omega)] at hz
                refine bT rfl (no ?_)
                unfold furS
                rw [if_neg hx0]
                simp; omega
              · rw [nIle (by omega) (by omega)] at hz
                refine bF (by decide) (yes ?_)
                unfold furS
                rw [if_neg hx0]
                simp; omega
    exact key (4 ^ n) 0 none 0 (-1) none m (by omega) rfl rfl (fun q hq => by cases hq) hm rfl
theorem m_sure (hH : MH n l J) (hm : J m) (s p : Int32) : Ctr 6 163 [vR true 0 0, vI s, vI p] (c, m) (PM J c (sSure n l s p)) := by
  obtain ⟨⟨h1, h6⟩, hl, hn, hle⟩ := id hH
  have h64 := pow2_le h6
  have hr6 := pow4_le h6
  refine ctr_ev 60 [25] rfl rfl (iF (m_noSet h6 (hn m hm) s) (by decide) (bI (fun h => ?_) (fun h => ?_)))
  · rw [bi_0, Classical.not_not] at h
    refine iF (m_noPerson (hn m hm) p) (by decide) (bI (fun hp => ?_) (fun hp => ?_))
    · rw [bi_0, Classical.not_not] at hp
      rw [sSure, if_pos ⟨h, hp⟩]
      obtain ⟨hk, he⟩ := clampP (pow2_pos n) (by omega) h
      obtain ⟨hk2, he2⟩ := clampP h1 (by omega) hp
      generalize tN s = t at hk he ⊢
      generalize tN p = q at hk2 he2 ⊢
      subst he he2
      have key : ∀ (j k : Nat) (b : Option Nat) (y a : Int32) (m : Sd), k + j = 4 ^ n → y = nI k → a = optI b → (∀ d, b = some d → d < 4) → J m → sureF (gd n l t) q (4 ^ n) 0 none = sureF (gd n l t) q j k b → Go 6 163 none 25 [some (vR true 0 0), some (vI (nI t)), some (vI (nI q)), some (vI a), some (vI y)] [] (c, m) (PM J c (optI (sureF (gd n l t) q (4 ^ n) 0 none))) := by
        intro j
        induction j with
        | zero =>
          intro k b y a m hk hy ha hb hm hf
          refine go_ev 40 [25] (iF (m_allRows h6 (hn m hm)) (by decide) (bT (by rw [hy, nIle (by omega) (by omega)]; omega) ?_))
          refine mqi hm ?_
          rw [hf, ha]
          rfl
        | succ j ih =>
          intro k b y a m hk hy ha hb hm hf
          subst hy ha
          have hdd := dd_lt k q
          have hb31 : ∀ q, b = some q → q < 2 ^ 31 := fun q hq => by have := hb q hq; omega
          refine go_ev 60 [25] (iF (m_allRows h6 (hn m hm)) (by decide) (bF (by rw [nIle (by omega) (by omega)]; omega) ?_))
          refine iC (m_notSo hH hm (row := k) (day := 9) (s := t) (by omega) (by decide) (by decide) (by omega)) (by decide) ?_
          rintro _ _ ⟨m2, rfl, hm2, rfl⟩
          refine bI (fun h => ?_) (fun h => ?_)
          · rw [opt_ge (nb_lt h6)] at h
            have h : ¬ gd n l t k = true := fun z => gd_iff.mp z h
            refine ih (k + 1) b _ _ m2 (by omega) (nI_succ k).symm rfl hb hm2 ?_
            rw [hf]
            simp only [sureF]
            rw [if_neg h]
          · rw [opt_ge (nb_lt h6)] at h
            have h := gd_iff.mpr h
            have hsome : ∀ d, some (dd k q) = some d → d < 4 := fun d hd => by cases hd; exact hdd
            refine bI (fun hb0 => ?_) (fun hb0 => ?_)
            · rw [opt_lt0 hb31] at hb0
              subst hb0
              refine iF (m_deed _ (by omega) (by omega)) (by decide) ?_
              refine ih (k + 1) (some (dd k q)) _ _ m2 (by omega) (nI_succ k).symm rfl hsome hm2 ?_
              rw [hf]
              simp only [sureF]
              rw [if_pos h, if_pos (Or.inl trivial)]
            · rw [opt_lt0 hb31] at hb0
              obtain ⟨d, rfl⟩ := Option.ne_none_iff_exists'.mp hb0
              have hd := hb d rfl
              refine iF (m_deed _ (by omega) (by omega)) (by decide) ?_
              refine bI (fun hz => ?_) (fun hz => ?_)
              · have hz : d = dd k q := (nIeq (by omega) (by omega)).mp hz
                refine iF (m_deed _ (by omega) (by omega)) (by decide) ?_
                refine ih (k + 1) (some (dd k q)) _ _ m2 (by omega) (nI_succ k).symm rfl hsome hm2 ?_
                rw [hf]
                simp only [sureF]
                rw [if_pos h, if_pos (Or.inr (by rw [hz]))]
              · have hz : ¬ d = dd k q := fun z => hz ((nIeq (by omega) (by omega)).mpr z)
                refine mqi hm2 ?_
                rw [hf]
                simp only [sureF]
                rw [if_pos h, if_neg (by simp [hz])]
                rfl
      exact key (4 ^ n) 0 none 0 (-1) m (by omega) rfl rfl (fun q hq => by cases hq) hm rfl
    · rw [bi_0, Classical.not_not] at hp
      refine mqi hm ?_
      rw [sSure, if_neg (fun z => hp z.2)]
  · rw [bi_0, Classical.not_not] at h
    refine mqi hm ?_
    rw [sSure, if_neg (fun z => h z.1)]
/-- what a row of slips leaves: the row and the person -/
def PSl (J : Sd → Prop) (c : Sd) (n : Nat) (l : Nat → Nat → Nat → Nat) (day p : Nat) : Wd → Option PV → Prop := fun w' r' => ∃ m' : Sd, w' = (c, m') ∧ J m' ∧ r' = some (vI (bi ((slR n l day p).isSome = true))) ∧ ∀ row, slR n l day p = some row → m'.1 0 0 41 = nI row ∧ m'.1 0 0 42 = optI (slB n l day p row)
theorem m_slips (hH : MH n l J) (hz : ∀ c m f x, f = 41 ∨ f = 42 → J m → J (sF (c, m) true 0 0 f x).2) (hm : J m) {p day : Nat} (hp : p < n) (hd1 : 1 ≤ day) (hd9 : day ≤ 9) : Ctr 4 130 [vR true 0 0, vI (nI p), vI (nI day)] (c, m) (PSl J c n l day p) := by
  obtain ⟨⟨h1, h6⟩, hl, hn, hle⟩ := id hH
  have hr6 := pow4_le h6
  have key : ∀ (j k : Nat) (x : Int32) (v4 v5 : Option PV) (m : Sd), k + j = 4 ^ n → x = nI k → J m → slR n l day p = fst (fun row => decide (dd row p = 0) && (slB n l day p row).isSome) j k → Go 4 130 none 2 [some (vR true 0 0), some (vI (nI p)), some (vI (nI day)), some (vI x), v4, v5] [] (c, m) (PSl J c n l day p) := by
    intro j
    induction j with
    | zero =>
      intro k x v4 v5 m hk hx hm hf
      refine go_ev 40 [2] (iF (m_allRows h6 (hn m hm)) (by decide) (bT (by rw [hx, nIle (by omega) (by omega)]; omega) ?_))
      refine And.intro rfl ⟨m, rfl, hm, ?_, fun row hrow => ?_⟩
      · rw [hf, bi_f (by simp [fst])]
      · rw [hf] at hrow
        cases hrow
    | succ j ih =>
      intro k x v4 v5 m hk hx hm hf
      subst hx
      have hdd := dd_lt k p
      refine go_ev 60 [2, 34] (iF (m_allRows h6 (hn m hm)) (by decide) (bF (by rw [nIle (by omega) (by omega)]; omega) ?_))
      refine iF (m_deed _ (by omega) (by omega)) (by decide) ?_
      have skip : ∀ (own : Int32) (q : Int32) (m : Sd), J m → ¬ dd k p = 0 → m.1 0 0 0 = nI n → ∀ y : Nat, q = nI y → y ≤ n → Go 4 130 none 34 [some (vR true 0 0), some (vI (nI p)), some (vI (nI day)), some (vI (nI k)), some (vI own), some (vI q)] [] (c, m) (PSl J c n l day p) := by
        intro own q m hm h0 hnm y hq hy
        subst hq
        have fin : Go 4 130 none 2 [some (vR true 0 0), some (vI (nI p)), some (vI (nI day)), some (vI (nI k + 1)), some (vI own), some (vI (nI y))] [] (c, m) (PSl J c n l day p) := by
          refine ih (k + 1) _ _ _ m (by omega) (nI_succ k).symm hm ?_
          rw [hf]
          simp [fst, h0]
        refine go_ev 40 [2, 34] (bI (c := m.1 0 0 0 ≤ nI y) (fun _ => fin) (fun _ => ?_))
        refine iF (m_deed _ (by omega) (by omega)) (by decide) ?_
        exact bF (by rw [show (0 : Int32) = nI 0 from rfl, nIeq (by omega) (by decide)]; exact h0) fin
      refine bI (fun h0 => ?_) (fun h0 => ?_)
      · rw [show (0 : Int32) = nI 0 from rfl, nIeq (by omega) (by decide)] at h0
        refine iC (hle c m hm p k day hp (by omega) hd1 hd9) (by decide) ?_
        rintro _ _ ⟨m2, rfl, hm2, rfl⟩
        have hnow := hl p k day
        have inner : ∀ (i q : Nat) (y : Int32) (m : Sd), q + i = n → y = nI q → J m → slB n l day p k = fst (fun q => q != p && (decide (dd k q < 3) && decide (l p (k + 4 ^ q) day < l p k day))) i q → Go 4 130 none 34 [some (vR true 0 0), some (vI (nI p)), some (vI (nI day)), some (vI (nI k)), some (vI (nI (l p k day))), some (vI y)] [] (c, m) (PSl J c n l day p) := by
          intro i
          induction i with
          | zero =>
            intro q y m hq hy hm hs
            refine go_ev 40 [2, 34] (bT (c := m.1 0 0 0 ≤ y) (by rw [hn m hm, hy, nIle (by omega) (by omega)]; omega) ?_)
            refine ih (k + 1) _ _ _ m (by omega) (nI_succ k).symm hm ?_
            rw [hf]
            have : slB n l day p k = none := hs
            simp [fst, this]
          | succ i ih2 =>
            intro q y m hq hy hm hs
            subst hy
            have hdq := dd_lt k q
            refine go_ev 60 [2, 34] (bF (c := m.1 0 0 0 ≤ nI q) (by rw [hn m hm, nIle (by omega) (by omega)]; omega) ?_)
            refine iF (m_deed _ (by omega) (by omega)) (by decide) ?_
            refine bT (by rw [h0]; rfl) ?_
            refine bI (fun h2 => ?_) (fun h2 => ?_)
            · rw [nIeq (by omega) (by omega)] at h2
              refine ih2 (q + 1) _ m (by omega) (nI_succ q).symm hm ?_
              rw [hs]
              simp [fst, h2]
            · rw [nIeq (by omega) (by omega)] at h2
              refine iF (m_deed _ (by omega) (by omega)) (by decide) ?_
              refine bI (fun h3 => ?_) (fun h3 => ?_)
              · rw [show (3 : Int32) = nI 3 from rfl, nIle (by decide) (by omega)] at h3
                refine ih2 (q + 1) _ m (by omega) (nI_succ q).symm hm ?_
                rw [hs]
                simp [fst, Nat.not_lt.mpr h3]
              · rw [show (3 : Int32) = nI 3 from rfl, nIle (by decide) (by omega)] at h3
                have hup := up_lt (row := k) (n := n) (q := q) (by omega) (by omega) (by omega)
                have hx := hle c m hm p (k + 4 ^ q) day hp hup hd1 hd9
                rw [← nIadd, ← nI_rows (n := q) (by omega)] at hx
                refine iC hx (by decide) ?_
                rintro _ _ ⟨m3, rfl, hm3, rfl⟩
                have := hl p (k + 4 ^ q) day
                refine bI (fun h4 => ?_) (fun h4 => ?_)
                · rw [nIle (by omega) (by omega)] at h4
                  refine ih2 (q + 1) _ m3 (by omega) (nI_succ q).symm hm3 ?_
                  rw [hs]
                  simp [fst, Nat.not_lt.mpr h4]
                · rw [nIle (by omega) (by omega)] at h4
                  have hq2 : slB n l day p k = some q := by
                    rw [hs]
                    simp only [fst]
                    rw [if_pos (by simp [h2]; omega)]
                  have hrk : slR n l day p = some k := by
                    rw [hf]
                    simp only [fst]
                    rw [if_pos (by simp [h0, hq2])]
                  refine And.intro rfl ⟨_, rfl, hz _ _ 42 _ (Or.inr rfl) (hz c m3 41 _ (Or.inl rfl) hm3), ?_, fun row hrow => ?_⟩
                  · rw [hrk, bi_t (show (some k).isSome = true from rfl)]
                  · rw [hrk] at hrow
                    cases hrow
                    rw [hq2]
                    exact ⟨rfl, rfl⟩
        exact inner n 0 0 m2 (by omega) rfl hm2 rfl
      · rw [show (0 : Int32) = nI 0 from rfl, nIeq (by omega) (by decide)] at h0
        exact skip 0 0 m hm h0 (hn m hm) 0 rfl (by omega)
  refine ctr_ev 40 [2] rfl rfl ?_
  exact key (4 ^ n) 0 0 none none m (by omega) rfl hm rfl
end MO2
end
section
/-! the model's calls, third part -/
section MO3
variable {n : Nat} {l : Nat → Nat → Nat → Nat} {J : Sd → Prop} {c m : Sd}
theorem m_growing (hH : MH n l J) (hz : ∀ c m f x, f = 41 ∨ f = 42 → J m → J (sF (c, m) true 0 0 f x).2) (hm : J m) : Ctr 5 128 [vR true 0 0] (c, m) (PM J c (nI (growN n l))) := by
  obtain ⟨⟨h1, h6⟩, hl, hn, hle⟩ := id hH
  have key : ∀ (j k : Nat) (x a : Int32) (m : Sd), k + j = n → x = nI k → a = nI (cntB (fun p => (slR n l 9 p).isNone) k) → J m → Go 5 128 none 4 [some (vR true 0 0), some (vI a), some (vI x)] [] (c, m) (PM J c (nI (growN n l))) := by
    intro j
    induction j with
    | zero =>
      intro k x a m hk hx ha hm
      refine go_ev 40 [4] (bT (c := m.1 0 0 0 ≤ x) (by rw [hn m hm, hx, nIle (by omega) (by omega)]; omega) ?_)
      refine mqi hm ?_
      rw [ha, show k = n by omega]
      rfl
    | succ j ih =>
      intro k x a m hk hx ha hm
      subst hx
      refine go_ev 40 [4] (bF (c := m.1 0 0 0 ≤ nI k) (by rw [hn m hm, nIle (by omega) (by omega)]; omega) ?_)
      refine iC (m_slips hH hz hm (p := k) (day := 9) (by omega) (by decide) (by decide)) (by decide) ?_
      rintro _ _ ⟨m2, rfl, hm2, rfl, -⟩
      refine bI (fun h2 => ?_) (fun h2 => ?_)
      · rw [bi_0] at h2
        refine iF (m_one _ 1) (by decide) ?_
        refine ih (k + 1) _ _ m2 (by omega) (nI_succ k).symm ?_ hm2
        have h3 : slR n l 9 k = none := by simpa using h2
        rw [ha, bi_t (by decide)]
        simp [cntB, h3, nI_succ]
      · rw [bi_0, Classical.not_not] at h2
        refine iF (m_one _ 0) (by decide) ?_
        refine ih (k + 1) _ _ m2 (by omega) (nI_succ k).symm ?_ hm2
        have h3 : ¬ slR n l 9 k = none := by
          intro z
          rw [z] at h2
          cases h2
        rw [ha, bi_f (by decide)]
        simp [cntB, h3]
  refine ctr_ev 40 [4] rfl rfl ?_
  exact key n 0 0 0 m (by omega) rfl rfl hm
theorem m_grows (hH : MH n l J) (hz : ∀ c m f x, f = 41 ∨ f = 42 → J m → J (sF (c, m) true 0 0 f x).2) (hm : J m) (p d x : Int32) : Ctr 6 131 [vR true 0 0, vI p, vI d, vI x] (c, m) (PM J c (sGrows n l p d x)) := by
  obtain ⟨⟨h1, h6⟩, hl, hn, hle⟩ := id hH
  have hr6 := pow4_le h6
  refine ctr_ev 60 [] rfl rfl (iF (m_noPerson (hn m hm) p) (by decide) (bI (fun hp => ?_) (fun hp => ?_)))
  · rw [bi_0, Classical.not_not] at hp
    rw [sGrows, if_pos hp]
    refine iF (m_isDay _ d) (by decide) (bI (fun hd => ?_) (fun hd => ?_))
    · rw [bi_0] at hd
      refine mqi hm ?_
      rw [if_neg (fun z => hd z.1)]
    · rw [bi_0, Classical.not_not] at hd
      refine iF (m_in _ x (-1) 1) (by decide) (bI (fun hx => ?_) (fun hx => ?_))
      · rw [bi_0] at hx
        refine mqi hm ?_
        rw [if_neg (fun z => hx z.2)]
      · rw [bi_0, Classical.not_not] at hx
        rw [if_pos ⟨hd, hx⟩]
        obtain ⟨hk, he⟩ := clampP h1 (by omega) hp
        obtain ⟨hk3, hk4, he3⟩ := clampW (a := 1) (b := 9) (by decide) hd (by decide)
        generalize tN p = q at hk he ⊢
        generalize tN d = day at hk3 hk4 he3 ⊢
        subst he he3
        refine iC (m_slips hH hz hm hk hk3 hk4) (by decide) ?_
        rintro _ _ ⟨m2, rfl, hm2, rfl, hv⟩
        cases hs : slR n l day q with
        | none =>
          rw [bi_f (by simp)]
          refine bI (fun h => ?_) (fun h => ?_)
          · refine bT rfl ?_
            refine iF (m_one _ 1) (by decide) ?_
            refine mqi hm2 ?_
            simp only [if_pos h]
            rw [bi_t (by decide)]
          · refine bT rfl ?_
            refine mqi hm2 ?_
            simp only [if_neg h]
        | some row =>
          obtain ⟨hv1, hv2⟩ := hv row hs
          rw [bi_t (by simp)]
          refine bI (fun h => ?_) (fun h => ?_)
          · refine bF (by decide) ?_
            refine iF (m_one _ 0) (by decide) ?_
            refine mqi hm2 ?_
            simp only [if_pos h]
            rw [bi_f (by decide)]
          · refine bF (by decide) ?_
            refine bI (fun h0 => ?_) (fun h0 => ?_)
            · refine mqi hm2 ?_
              simp only [if_neg h, if_pos h0]
              exact hv1
            · refine mqi hm2 ?_
              simp only [if_neg h, if_neg h0]
              exact hv2
  · rw [bi_0, Classical.not_not] at hp
    refine mqi hm ?_
    rw [sGrows, if_neg hp]
/-- the set of whom one hangs on, while a person's deeds are tried -/
theorem or_in : ∀ k, k < 6 → ∀ a, a < 64 → a < 2 ^ (k + 1) → a.testBit k = true → nI a ||| ((1 : Int32) <<< (nI k &&& 31)) = nI a := by decide +kernel
theorem m_hangs (hH : MH n l J) (hm : J m) (p r : Int32) : Ctr 6 141 [vR true 0 0, vI p, vI r] (c, m) (PM J c (sHangs n l p r)) := by
  obtain ⟨⟨h1, h6⟩, hl, hn, hle⟩ := id hH
  have hr6 := pow4_le h6
  refine ctr_ev 60 [39] rfl rfl (iF (m_noPerson (hn m hm) p) (by decide) (bI (fun hp => ?_) (fun hp => ?_)))
  · rw [bi_0, Classical.not_not] at hp
    rw [sHangs, if_pos hp]
    refine iF (m_noRow h6 (hn m hm) r) (by decide) (bI (fun hr => ?_) (fun hr => ?_))
    · rw [bi_0, Classical.not_not] at hr
      rw [if_pos hr]
      obtain ⟨hq0, he⟩ := clampP h1 (by omega) hp
      obtain ⟨hk2, he2⟩ := clampP (pow4_pos n) (by omega) hr
      generalize tN p = q at hq0 he ⊢
      generalize tN r = row at hk2 he2 ⊢
      subst he he2
      have hnow := hl q row 9
      have key : ∀ (j k : Nat) (x a : Int32) (v6 v7 : Option PV) (m : Sd), k + j = n → x = nI k → a = nI (hgF l q row k) → J m → Go 6 141 none 39 [some (vR true 0 0), some (vI (nI q)), some (vI (nI row)), some (vI (nI (l q row 9))), some (vI a), some (vI x), v6, v7] [] (c, m) (PM J c (nI (hgF l q row n))) := by
        intro j
        induction j with
        | zero =>
          intro k x a v6 v7 m hk hx ha hm
          refine go_ev 40 [39] (bT (c := m.1 0 0 0 ≤ x) (by rw [hn m hm, hx, nIle (by omega) (by omega)]; omega) ?_)
          refine mqi hm ?_
          rw [ha, show k = n by omega]
        | succ j ih =>
          intro k x a v6 v7 m hk hx ha hm
          subst hx ha
          have hb := hgF_lt l q row k
          have hb2 : 2 ^ k ≤ 32 := by
            have := Nat.pow_le_pow_right (n := 2) (by decide) (show k ≤ 5 by omega)
            simpa using this
          refine go_ev 40 [39, 51] (bF (c := m.1 0 0 0 ≤ nI k) (by rw [hn m hm, nIle (by omega) (by omega)]; omega) ?_)
          have inner : ∀ (i d : Nat) (y a : Int32) (v7 : Option PV) (m : Sd), d + i = 4 → y = nI d → a = nI (hgF l q row k + (if k != q && (fst (fun d => l q (wdd row k d) 9 != l q row 9) d 0).isSome then 2 ^ k else 0)) → J m → Go 6 141 none 51 [some (vR true 0 0), some (vI (nI q)), some (vI (nI row)), some (vI (nI (l q row 9))), some (vI a), some (vI (nI k)), some (vI y), v7] [] (c, m) (PM J c (nI (hgF l q row n))) := by
            intro i
            induction i with
            | zero =>
              intro d y a v7 m hd hy ha hm
              refine go_ev 40 [39, 51] (bT (by rw [hy, show (4 : Int32) = nI 4 from rfl, nIle (by decide) (by omega)]; omega) ?_)
              refine ih (k + 1) _ _ _ _ m (by omega) (nI_succ k).symm ?_ hm
              rw [ha, show d = 4 by omega]
              rfl
            | succ i ih2 =>
              intro d y a v7 m hd hy ha hm
              subst hy
              refine go_ev 60 [39, 51] (bF (by rw [show (4 : Int32) = nI 4 from rfl, nIle (by decide) (by omega)]; omega) ?_)
              refine bI (fun hkq => ?_) (fun hkq => ?_)
              · rw [nIeq (by omega) (by omega)] at hkq
                refine ih (k + 1) _ _ _ _ m (by omega) (nI_succ k).symm ?_ hm
                rw [ha]
                simp [hgF, hkq]
              · rw [nIeq (by omega) (by omega)] at hkq
                refine iF (m_deed _ (by omega) (by omega)) (by decide) ?_
                have hx := hle c m hm q (wdd row k d) 9 hq0 (wdd_lt hk2 (by omega) (by omega)) (by decide) (by decide)
                rw [← nI_put (row := row) (q := k) (d := d) (by omega)] at hx
                refine iC hx (by decide) ?_
                rintro _ _ ⟨m3, rfl, hm3, rfl⟩
                have hlw := hl q (wdd row k d) 9
                have hsn := fst_snoc (fun d => l q (wdd row k d) 9 != l q row 9) d 0
                rw [Nat.zero_add] at hsn
                refine bI (fun h4 => ?_) (fun h4 => ?_)
                · rw [nIeq (by omega) (by omega)] at h4
                  refine ih2 (d + 1) _ _ _ m3 (by omega) (nI_succ d).symm ?_ hm3
                  show a ||| 0 = _
                  rw [show a ||| 0 = a from Int32.or_zero, ha, hsn]
                  cases fst (fun d => l q (wdd row k d) 9 != l q row 9) d 0 <;> simp [h4]
                · rw [nIeq (by omega) (by omega)] at h4
                  refine ih2 (d + 1) _ _ _ m3 (by omega) (nI_succ d).symm ?_ hm3
                  rw [ha, hsn]
                  cases hf : fst (fun d => l q (wdd row k d) 9 != l q row 9) d 0 with
                  | none =>
                    simp only [Option.isSome_none, Bool.and_false, Bool.false_eq_true, if_false, Nat.add_zero]
                    rw [or_bit k (by omega) _ (by omega) hb]
                    simp [hkq, h4]
                  | some z =>
                    simp only [Option.isSome_some, Bool.and_true]
                    rw [if_pos (by simp [hkq])]
                    rw [or_in k (by omega) _ (by omega) (by rw [Nat.pow_succ]; omega)]
                    rw [Nat.testBit_eq_decide_div_mod_eq, decide_eq_true_eq, Nat.add_div_right _ (Nat.pow_pos (by decide)), Nat.div_eq_of_lt hb]
          exact inner 4 0 0 _ _ m rfl rfl (by simp [fst]) hm
      refine iC (hle c m hm q row 9 hq0 hk2 (by decide) (by decide)) (by decide) ?_
      rintro _ _ ⟨m2, rfl, hm2, rfl⟩
      exact key n 0 0 0 none none m2 (by omega) rfl rfl hm2
    · rw [bi_0, Classical.not_not] at hr
      refine mqi hm ?_
      rw [if_neg hr]
  · rw [bi_0, Classical.not_not] at hp
    refine mqi hm ?_
    rw [sHangs, if_neg hp]
theorem m_rowBy (hH : MH n l J) (hm : J m) {day : Nat} (hd : day ≤ 9) : Ctr 4 149 [vR true 0 0, vI (nI day)] (c, m) (PM J c (nI (byD n l day))) := by
  obtain ⟨⟨h1, h6⟩, hl, hn, hle⟩ := id hH
  have hr6 := pow4_le h6
  have key : ∀ (j k : Nat) (x a : Int32) (v4 v5 v6 : Option PV) (m : Sd), k + j = day → x = nI (k + 1) → a = nI (byD n l k) → J m → Go 4 149 none 4 [some (vR true 0 0), some (vI (nI day)), some (vI a), some (vI x), v4, v5, v6] [] (c, m) (PM J c (nI (byD n l day))) := by
    intro j
    induction j with
    | zero =>
      intro k x a v4 v5 v6 m hk hx ha hm
      subst hx
      refine go_ev 40 [4] (bT (by rw [nIlt (by omega) (by omega)]; omega) ?_)
      refine mqi hm ?_
      rw [ha, show k = day by omega]
    | succ j ih =>
      intro k x a v4 v5 v6 m hk hx ha hm
      subst hx ha
      have hB := byD_lt (n := n) hl k
      have inner : ∀ (i q : Nat) (y t : Int32) (v6 : Option PV) (m : Sd), q + i = n → y = nI q → t = nI (digs (fun p => max (dd (byD n l k) p) (l p (byD n l k) (k + 1))) q) → J m → Go 4 149 none 15 [some (vR true 0 0), some (vI (nI day)), some (vI (nI (byD n l k))), some (vI (nI (k + 1))), some (vI t), some (vI y), v6] [] (c, m) (PM J c (nI (byD n l day))) := by
        intro i
        induction i with
        | zero =>
          intro q y t v6 m hq hy ht hm
          refine go_ev 40 [4, 15] (bT (c := m.1 0 0 0 ≤ y) (by rw [hn m hm, hy, nIle (by omega) (by omega)]; omega) ?_)
          refine ih (k + 1) _ _ _ _ _ m (by omega) (nI_succ (k + 1)).symm ?_ hm
          rw [ht, show q = n by omega]
          rfl
        | succ i ih2 =>
          intro q y t v6 m hq hy ht hm
          subst hy ht
          have hdd := dd_lt (byD n l k) q
          have hlq := hl q (byD n l k) (k + 1)
          refine go_ev 60 [4, 15] (bF (c := m.1 0 0 0 ≤ nI q) (by rw [hn m hm, nIle (by omega) (by omega)]; omega) ?_)
          refine iC (hle c m hm q (byD n l k) (k + 1) (by omega) hB (by omega) (by omega)) (by decide) ?_
          rintro _ _ ⟨m2, rfl, hm2, rfl⟩
          refine iF (m_deed _ (by omega) (by omega)) (by decide) ?_
          refine bI (fun h => ?_) (fun h => ?_)
          · rw [nIle (by omega) (by omega)] at h
            refine iF (m_deed _ (by omega) (by omega)) (by decide) ?_
            refine ih2 (q + 1) _ _ _ m2 (by omega) (nI_succ q).symm ?_ hm2
            rw [nI_dig (by omega)]
            simp only [digs]
            rw [Nat.max_eq_left h]
          · rw [nIle (by omega) (by omega)] at h
            refine ih2 (q + 1) _ _ _ m2 (by omega) (nI_succ q).symm ?_ hm2
            rw [nI_dig (by omega)]
            simp only [digs]
            rw [Nat.max_eq_right (by omega)]
      refine go_ev 40 [4, 15] (bF (by rw [nIlt (by omega) (by omega)]; omega) ?_)
      exact inner n 0 0 0 _ m (by omega) rfl rfl hm
  refine ctr_ev 40 [4] rfl rfl ?_
  exact key day 0 1 0 none none none m (by omega) rfl rfl hm
theorem m_byDay (hH : MH n l J) (hm : J m) (d : Int32) : Ctr 6 150 [vR true 0 0, vI d] (c, m) (PM J c (sByDay n l d)) := by
  refine ctr_ev 60 [] rfl rfl (iF (m_in _ d 0 9) (by decide) (bI (fun hd => ?_) (fun hd => ?_)))
  · rw [bi_0] at hd
    refine mqi hm ?_
    rw [sByDay, if_neg hd]
  · rw [bi_0, Classical.not_not] at hd
    rw [sByDay, if_pos hd]
    obtain ⟨hk3, hk4, he3⟩ := clampW (a := 0) (b := 9) (by decide) hd (by decide)
    generalize tN d = day at hk3 hk4 he3 ⊢
    subst he3
    refine iC (m_rowBy hH hm hk4) (by decide) ?_
    rintro _ _ ⟨m2, rfl, hm2, rfl⟩
    exact mqi hm2 rfl
theorem m_dares (hH : MH n l J) (hm : J m) (p : Int32) : Ctr 6 151 [vR true 0 0, vI p] (c, m) (PM J c (sDares n l p)) := by
  obtain ⟨⟨h1, h6⟩, hl, hn, hle⟩ := id hH
  have hr6 := pow4_le h6
  refine ctr_ev 60 [14] rfl rfl (iF (m_noPerson (hn m hm) p) (by decide) (bI (fun hp => ?_) (fun hp => ?_)))
  · rw [bi_0, Classical.not_not] at hp
    rw [sDares, if_pos hp]
    obtain ⟨hk, he⟩ := clampP h1 (by omega) hp
    generalize tN p = q at hk he ⊢
    subst he
    have key : ∀ (j k : Nat) (x : Int32) (m : Sd), k + j = 9 → x = nI (k + 1) → J m → fst (fun d => decide (0 < dd (byD n l d) q)) 9 1 = fst (fun d => decide (0 < dd (byD n l d) q)) j (k + 1) → Go 6 151 none 14 [some (vR true 0 0), some (vI (nI q)), some (vI x)] [] (c, m) (PM J c (optI (fst (fun d => decide (0 < dd (byD n l d) q)) 9 1))) := by
      intro j
      induction j with
      | zero =>
        intro k x m hk hx hm hf
        subst hx
        refine go_ev 40 [14] (bT (by rw [show (9 : Int32) = nI 9 from rfl, nIlt (by omega) (by omega)]; omega) ?_)
        refine mqi hm ?_
        rw [hf]
        rfl
      | succ j ih =>
        intro k x m hk hx hm hf
        subst hx
        refine go_ev 40 [14] (bF (by rw [show (9 : Int32) = nI 9 from rfl, nIlt (by omega) (by omega)]; omega) ?_)
        refine iC (m_rowBy hH hm (day := k + 1) (by omega)) (by decide) ?_
        rintro _ _ ⟨m2, rfl, hm2, rfl⟩
        have hlt := byD_lt (n := n) hl (k + 1)
        have hdd := dd_lt (byD n l (k + 1)) q
        refine iF (m_deed _ (by omega) (by omega)) (by decide) ?_
        refine bI (fun h2 => ?_) (fun h2 => ?_)
        · rw [show (0 : Int32) = nI 0 from rfl, nIle (by omega) (by decide)] at h2
          refine ih (k + 1) _ m2 (by omega) (nI_succ (k + 1)).symm hm2 ?_
          rw [hf]
          simp only [fst]
          rw [if_neg (by simp; omega)]
        · rw [show (0 : Int32) = nI 0 from rfl, nIle (by omega) (by decide)] at h2
          refine mqi hm2 ?_
          rw [hf]
          simp only [fst]
          rw [if_pos (by simp; omega)]
          rfl
    exact key 9 0 1 m (by omega) rfl hm rfl
  · rw [bi_0, Classical.not_not] at hp
    refine mqi hm ?_
    rw [sDares, if_neg hp]
end MO3
end
section
/-! the model's climbs -/
def MS (J : Sd → Prop) (g a : Nat → Int32) : Sd → Prop := fun m => J m ∧ (∀ f, 44 ≤ f → f ≤ 46 → m.1 0 0 f = g f) ∧ m.2.1 43 0 = a
def MK (n : Nat) (l : Nat → Nat → Nat → Nat) (J : Sd → Prop) : Prop := (∀ g a, MH n l (MS J g a)) ∧ (∀ c m f x, 44 ≤ f → f ≤ 46 → J m → J (sF (c, m) true 0 0 f x).2) ∧ ∀ c m j x, J m → J (sA (c, m) true 43 0 j x).2
def QU (J : Sd → Prop) (c : Sd) (r t g : Int32) : Wd → Option PV → Prop := fun w' r' => ∃ m' : Sd, w' = (c, m') ∧ J m' ∧ m'.1 0 0 44 = r ∧ m'.1 0 0 45 = t ∧ m'.1 0 0 46 = g ∧ r' = none
section MO4
variable {n : Nat} {l : Nat → Nat → Nat → Nat} {J : Sd → Prop} {c m : Sd}
theorem m_nextRow (hH : MH n l J) (hm : J m) {row : Nat} (hr : row < 4 ^ n) (way : Int32) : Ctr 4 138 [vR true 0 0, vI (nI row), vI way] (c, m) (PM J c (nI (nxt n (fun p row => l p row 9) way row))) := by
  obtain ⟨⟨h1, h6⟩, hl, hn, hle⟩ := id hH
  have hr6 := pow4_le h6
  have hg : ∀ p row, (fun p row => l p row 9) p row < 4 := fun p row => hl p row 9
  generalize hgg : (fun p row => l p row 9) = g at hg
  have hgl : ∀ p row, l p row 9 = g p row := fun p row => by rw [← hgg]
  have key : ∀ (j k t : Nat) (x a : Int32) (m : Sd), k + j = n → x = nI k → a = nI t → t = (if way = 0 then digs (fun p => g p row) k else ob g row k) → t < 4 ^ n → J m → Go 4 138 none 13 [some (vR true 0 0), some (vI (nI row)), some (vI way), some (vI a), some (vI x)] [] (c, m) (PM J c (nI (nxt n g way row))) := by
    intro j
    induction j with
    | zero =>
      intro k t x a m hk hx ha ht hlt hm
      refine go_ev 40 [13] (bT (c := m.1 0 0 0 ≤ x) (by rw [hn m hm, hx, nIle (by omega) (by omega)]; omega) ?_)
      refine mqi hm ?_
      rw [ha, ht, show k = n by omega]
      rfl
    | succ j ih =>
      intro k t x a m hk hx ha ht hlt hm
      subst hx ha
      refine go_ev 60 [13] (bF (c := m.1 0 0 0 ≤ nI k) (by rw [hn m hm, nIle (by omega) (by omega)]; omega) ?_)
      refine bI (fun hw => ?_) (fun hw => ?_)
      · rw [if_pos hw] at ht
        refine iC (hle c m hm k row 9 (by omega) hr (by decide) (by decide)) (by decide) ?_
        rintro _ _ ⟨m2, rfl, hm2, rfl⟩
        refine ih (k + 1) (t + g k row * 4 ^ k) _ _ m2 (by omega) (nI_succ k).symm ?_ ?_ ?_ hm2
        · rw [nI_dig (by omega), hgl]
        · rw [if_pos hw, ht]
          rfl
        · rw [ht]
          exact Nat.lt_of_lt_of_le (digs_lt (fun p => hg p row) (k + 1)) (Nat.pow_le_pow_right (by decide) (by omega))
      · rw [if_neg hw] at ht
        refine iC (hle c m hm k t 9 (by omega) hlt (by decide) (by decide)) (by decide) ?_
        rintro _ _ ⟨m2, rfl, hm2, rfl⟩
        refine iF (m_deed _ (by omega) (by omega)) (by decide) ?_
        refine ih (k + 1) (wdd t k (g k t)) _ _ m2 (by omega) (nI_succ k).symm ?_ ?_ (wdd_lt hlt (by omega) (hg _ _)) hm2
        · rw [nI_put (by omega), hgl]
        · rw [if_neg hw, ht]
          rfl
  refine ctr_ev 40 [13] rfl rfl (bI (fun hw => ?_) (fun hw => ?_))
  · exact key n 0 0 0 0 m (by omega) rfl rfl (by rw [if_pos hw]; rfl) (pow4_pos n) hm
  · exact key n 0 row 0 _ m (by omega) rfl rfl (by rw [if_neg hw]; rfl) hr hm
theorem upd_at {f : Nat → Int32} {k : Nat} {x : Int32} (j : Nat) : upd f k x j = if j = k then x else f j := rfl
theorem m_goUp (hK : MK n l J) (hm : J m) {row mu la : Nat} (hr : row < 4 ^ n) (way : Int32) (hcy : Cyc (nxt n (fun p row => l p row 9) way) row mu la) : Ctr 5 139 [vR true 0 0, vI (nI row), vI way] (c, m) (QU J c (rstI (nxt n (fun p row => l p row 9) way) row mu la) (nI mu) (nI la)) := by
  obtain ⟨hH, hk1, hk2⟩ := hK
  obtain ⟨⟨h1, h6⟩, hl, -⟩ := id (hH (fun _ => 0) (fun _ => 0))
  have hr6 := pow4_le h6
  have hO := fun k => orb_lt (n := n) (g := fun p row => l p row 9) (fun p row => hl p row 9) (way := way) hr k
  have hla := hcy.1
  generalize hF : nxt n (fun p row => l p row 9) way = F at hcy hO
  have hsum : mu + la ≤ 4096 := by
    rcases Nat.lt_or_ge 4096 (mu + la) with q | q
    · exfalso
      obtain ⟨i, j, a1, a2, a3⟩ := pig (4 ^ n) (orb F row) (fun i _ => hO i)
      exact hcy.2.2 i j a1 (by omega) a3
    · exact q
  have cl : ∀ {k : Nat}, k < 4 ^ n → (nI k).toNatClampNeg = k := fun h => nI_clamp (by omega)
  have put : ∀ {g a : Nat → Int32} {m : Sd} (k : Nat) (x : Int32), k < 4 ^ n → MS J g a m → MS J g (upd a k x) (sA (c, m) true 43 0 (nI k).toNatClampNeg x).2 := by
    intro g a m k x hk h
    refine ⟨hk2 c m _ x h.1, h.2.1, ?_⟩
    rw [cl hk]
    show upd (m.2.1 43 0) k x = _
    rw [h.2.2]
  have k2 : ∀ (j s : Nat) (x y : Int32) (g a : Nat → Int32) (m : Sd), s + j = mu + la → x = nI (orb F row s) → y = nI s → (∀ i, i < s → a (orb F row i) = nI i) → (∀ r, r < 4 ^ n → (∀ i, i < s → orb F row i ≠ r) → a r = -1) → MS J g a m → Go 5 139 none 28 [some (vR true 0 0), some (vI (nI row)), some (vI way), some (vI x), some (vI y)] [] (c, m) (QU J c (rstI F row mu la) (nI mu) (nI la)) := by
    intro j
    induction j with
    | zero =>
      intro s x y g a m hs hx hy h1a h2a hm
      subst hx hy
      have hs : s = mu + la := by omega
      have hb := hO s
      have hmet : m.2.1 43 0 (nI (orb F row s)).toNatClampNeg = nI mu := by
        rw [cl hb, hm.2.2, hs, hcy.2.1]
        exact h1a mu (by omega)
      refine go_ev 40 [28] (dI (vp_in_nI (Nat.lt_of_lt_of_le hb hr6) (by decide)) ?_)
      refine bT (c := (0 : Int32) ≤ m.2.1 43 0 (nI (orb F row s)).toNatClampNeg) (by rw [hmet]; exact nI_pos' (by omega)) ?_
      refine dI (vp_in_nI (Nat.lt_of_lt_of_le hb hr6) (by decide)) ?_
      have hring : nI s - m.2.1 43 0 (nI (orb F row s)).toNatClampNeg = nI la := by
        rw [hmet, pk_sub (by omega), hs]
        congr 1
        omega
      refine bI (c := nI s - m.2.1 43 0 (nI (orb F row s)).toNatClampNeg = 1) (fun h => ?_) (fun h => ?_)
      · rw [hring, show (1 : Int32) = nI 1 from rfl, nIeq (by omega) (by decide)] at h
        refine ⟨_, rfl, hk1 _ _ 44 _ (by decide) (by decide) (hk1 _ _ 46 _ (by decide) (by decide) (hk1 c m 45 _ (by decide) (by decide) hm.1)), ?_, hmet, hring, rfl⟩
        show nI (orb F row s) = _
        rw [rstI, if_pos h, hs, hcy.2.1]
      · rw [hring, show (1 : Int32) = nI 1 from rfl, nIeq (by omega) (by decide)] at h
        refine ⟨_, rfl, hk1 _ _ 44 _ (by decide) (by decide) (hk1 _ _ 46 _ (by decide) (by decide) (hk1 c m 45 _ (by decide) (by decide) hm.1)), ?_, hmet, hring, rfl⟩
        show (-1 : Int32) = _
        rw [rstI, if_neg h]
    | succ j ih =>
      intro s x y g a m hs hx hy h1a h2a hm
      subst hx hy
      have hb := hO s
      have hnew : ∀ i, i < s → orb F row i ≠ orb F row s := fun i hi => hcy.2.2 i s hi (by omega)
      have hmet : m.2.1 43 0 (nI (orb F row s)).toNatClampNeg = -1 := by
        rw [cl hb, hm.2.2]
        exact h2a _ hb hnew
      refine go_ev 40 [28] (dI (vp_in_nI (Nat.lt_of_lt_of_le hb hr6) (by decide)) ?_)
      refine bF (c := (0 : Int32) ≤ m.2.1 43 0 (nI (orb F row s)).toNatClampNeg) (by rw [hmet]; decide) ?_
      refine dI (vp_in_nI (Nat.lt_of_lt_of_le hb hr6) (by decide)) ?_
      have hp := put (orb F row s) (nI s) hb hm
      have hnx := m_nextRow (c := c) (hH g (upd a (orb F row s) (nI s))) hp hb way
      rw [hF] at hnx
      refine iC hnx (by decide) ?_
      rintro _ _ ⟨m2, rfl, hm2, rfl⟩
      refine ih (s + 1) _ _ g _ m2 (by omega) rfl (nI_succ s).symm ?_ ?_ hm2
      · intro i hi
        rw [upd_at]
        by_cases his : i = s
        · rw [his, if_pos rfl]
        · rw [if_neg (hnew i (by omega))]
          exact h1a i (by omega)
      · intro r hr2 hni
        rw [upd_at, if_neg (fun z => hni s (by omega) z.symm)]
        exact h2a r hr2 (fun i hi => hni i (by omega))
  have k1 : ∀ (j k : Nat) (x : Int32) (g a : Nat → Int32) (m : Sd), k + j = 4 ^ n → x = nI k → (∀ r, r < k → a r = -1) → MS J g a m → Go 5 139 none 2 [some (vR true 0 0), some (vI (nI row)), some (vI way), some (vI x), none] [] (c, m) (QU J c (rstI F row mu la) (nI mu) (nI la)) := by
    intro j
    induction j with
    | zero =>
      intro k x g a m hk hx ha hm
      have hn := (hH g a).2.2.1 m hm
      refine go_ev 40 [2, 28] (iF (m_allRows h6 hn) (by decide) (bT (by rw [hx, nIle (by omega) (by omega)]; omega) ?_))
      exact k2 (mu + la) 0 _ _ g a m (by omega) rfl rfl (fun i hi => absurd hi (by omega)) (fun r hr2 _ => ha r (by omega)) hm
    | succ j ih =>
      intro k x g a m hk hx ha hm
      subst hx
      have hn := (hH g a).2.2.1 m hm
      refine go_ev 40 [2, 28] (iF (m_allRows h6 hn) (by decide) (bF (by rw [nIle (by omega) (by omega)]; omega) ?_))
      refine dI (vp_in_nI (by omega) (by decide)) ?_
      have hp := put k (-1) (by omega) hm
      refine ih (k + 1) _ g _ _ (by omega) (nI_succ k).symm ?_ hp
      intro r hr2
      rw [upd_at]
      split
      · rfl
      · exact ha r (by omega)
  refine ctr_ev 40 [2] rfl rfl ?_
  exact k1 (4 ^ n) 0 0 (fun f => m.1 0 0 f) (m.2.1 43 0) m (by omega) rfl (fun r hr2 => absurd hr2 (by omega)) ⟨hm, fun _ _ _ => rfl, rfl⟩
end MO4
/-- the model's side with a told word -/
def lw (l : Nat → Nat → Nat → Nat) (tl : Option Nat) (wd p row day : Nat) : Nat := if tl = some p then wd else l p row day
def MW (n : Nat) (l : Nat → Nat → Nat → Nat) (JW : Option Nat → Nat → Sd → Prop) : Prop := (1 ≤ n ∧ n ≤ 6) ∧ (∀ p row day, l p row day < 4) ∧ (∀ tl wd, (tl ≠ none → wd < 4) → MK n (lw l tl wd) (JW tl wd)) ∧ (∀ c m tl wd tl', (∀ q, tl' = some q → q < 6) → JW tl wd m → JW tl' wd (sF (c, m) true 0 0 35 (optI tl')).2) ∧ ∀ c m tl wd wd', JW tl wd m → JW tl wd' (sF (c, m) true 0 0 36 (nI wd')).2
def J0 (JW : Option Nat → Nat → Sd → Prop) : Sd → Prop := fun m => ∃ wd, JW none wd m
section MO5
variable {n : Nat} {l : Nat → Nat → Nat → Nat} {JW : Option Nat → Nat → Sd → Prop} {c m : Sd}
theorem m_goUpM (hW : MW n l JW) {tl : Option Nat} {wd : Nat} (hw : tl ≠ none → wd < 4) (hm : JW tl wd m) {row : Nat} (hr : row < 4 ^ n) (way : Int32) : Ctr 5 139 [vR true 0 0, vI (nI row), vI way] (c, m) (QU (JW tl wd) c (if (clM n l tl wd way row).2 = 1 then nI (clR n l tl wd way row) else -1) (nI (clM n l tl wd way row).1) (nI (clM n l tl wd way row).2)) := by
  obtain ⟨⟨h1, h6⟩, hl, hK, -⟩ := hW
  obtain ⟨a, b, -⟩ := clM_ok h6 hl hw way hr
  exact m_goUp (hK tl wd hw) hm hr way a
theorem MW.n0 (hW : MW n l JW) (hm : JW none 0 m) : m.1 0 0 0 = nI n := ((hW.2.2.1 none 0 (fun z => absurd rfl z)).1 (fun f => m.1 0 0 f) (m.2.1 43 0)).2.2.1 m ⟨hm, fun _ _ _ => rfl, rfl⟩
theorem m_climb (hW : MW n l JW) {wd : Nat} (hm : JW none wd m) (hn : m.1 0 0 0 = nI n) (r way x : Int32) : Ctr 6 140 [vR true 0 0, vI r, vI way, vI x] (c, m) (PM (JW none wd) c (sClimb n l r way x)) := by
  obtain ⟨⟨h1, h6⟩, hl, -⟩ := id hW
  have hr6 := pow4_le h6
  have e0 : ∀ row, clM n l none wd way row = clM n l none 0 way row := fun row => by
    unfold clM
    congr 1
  have e1 : ∀ row, clR n l none wd way row = clR n l none 0 way row := fun row => by
    unfold clR
    rw [e0]
    congr 1
  refine ctr_ev 60 [] rfl rfl (iF (m_noRow h6 hn r) (by decide) (bI (fun hr => ?_) (fun hr => ?_)))
  · rw [bi_0, Classical.not_not] at hr
    refine iF (m_in _ way 0 1) (by decide) (bI (fun hw => ?_) (fun hw => ?_))
    · rw [bi_0] at hw
      refine mqi hm ?_
      rw [sClimb, if_neg (fun z => hw z.2.1)]
    · rw [bi_0, Classical.not_not] at hw
      refine iF (m_in _ x 0 2) (by decide) (bI (fun hx => ?_) (fun hx => ?_))
      · rw [bi_0] at hx
        refine mqi hm ?_
        rw [sClimb, if_neg (fun z => hx z.2.2)]
      · rw [bi_0, Classical.not_not] at hx
        rw [sClimb, if_pos ⟨hr, hw, hx⟩]
        obtain ⟨hk, he⟩ := clampP (pow4_pos n) (by omega) hr
        generalize tN r = row at hk he ⊢
        subst he
        refine iC (m_goUpM hW (fun z => absurd rfl z) hm hk way) (by decide) ?_
        rintro _ _ ⟨m2, rfl, hm2, g1, g2, g3, rfl⟩
        rw [e0, e1] at g1
        rw [e0] at g2 g3
        refine bI (fun h0 => ?_) (fun h0 => ?_)
        · refine mqi hm2 ?_
          rw [if_pos h0]
          exact g1
        · rw [if_neg h0]
          refine bI (fun h2 => ?_) (fun h2 => ?_)
          · refine mqi hm2 ?_
            rw [if_pos h2]
            exact g2
          · refine mqi hm2 ?_
            rw [if_neg h2]
            exact g3
  · rw [bi_0, Classical.not_not] at hr
    refine mqi hm ?_
    rw [sClimb, if_neg (fun z => hr z.1)]
theorem m_leaving (hW : MW n l JW) {wd : Nat} (hm : JW none wd m) (hn : ∀ tl wd m, JW tl wd m → m.1 0 0 0 = nI n) (p r : Int32) : Ctr 6 142 [vR true 0 0, vI p, vI r] (c, m) (PM (J0 JW) c (sLeaving n l p r)) := by
  obtain ⟨⟨h1, h6⟩, hl, hK, hp1, hp2⟩ := id hW
  have hr6 := pow4_le h6
  refine ctr_ev 60 [] rfl rfl (iF (m_noPerson (hn _ _ m hm) p) (by decide) (bI (fun hp => ?_) (fun hp => ?_)))
  · rw [bi_0, Classical.not_not] at hp
    rw [sLeaving, if_pos hp]
    refine iF (m_noRow h6 (hn _ _ m hm) r) (by decide) (bI (fun hr => ?_) (fun hr => ?_))
    · rw [bi_0, Classical.not_not] at hr
      rw [if_pos hr]
      obtain ⟨hk, he⟩ := clampP h1 (by omega) hp
      obtain ⟨hk2, he2⟩ := clampP (pow4_pos n) (by omega) hr
      generalize tN p = q at hk he ⊢
      generalize tN r = row at hk2 he2 ⊢
      subst he he2
      obtain ⟨-, -, hR⟩ := clM_ok h6 hl (tl := some q) (wd := 0) (fun _ => by decide) 0 hk2
      have hm1 := hp1 c m none wd (some q) (fun q' hq => by cases hq; omega) hm
      have hm2 := hp2 c (sF (c, m) true 0 0 35 (optI (some q))).2 (some q) wd 0 hm1
      refine iC (m_goUpM hW (fun _ => by decide) hm2 hk2 0) (by decide) ?_
      rintro _ _ ⟨m2, rfl, hm2, g1, g2, g3, rfl⟩
      have hm3 := hp1 c m2 (some q) 0 none (fun q' hq => by cases hq) hm2
      have hn3 := hn _ _ _ hm3
      by_cases h1' : (clM n l (some q) 0 0 row).2 = 1
      · rw [if_pos h1'] at g1 ⊢
        refine bT (c := (0 : Int32) ≤ m2.1 0 0 44) (by rw [g1]; exact nI_pos' (by omega)) ?_
        refine iF (m_sumOf h6 hn3 (row := row) (by omega)) (by decide) ?_
        have hz := m_sumOf (c := c) h6 hn3 (row := clR n l (some q) 0 0 row) (by omega)
        rw [← g1] at hz
        refine iF hz (by decide) ?_
        exact mqi ⟨0, hm3⟩ rfl
      · rw [if_neg h1'] at g1 ⊢
        refine bF (c := (0 : Int32) ≤ m2.1 0 0 44) (by rw [g1]; decide) ?_
        exact mqi ⟨0, hm3⟩ rfl
    · rw [bi_0, Classical.not_not] at hr
      refine mqi ⟨wd, hm⟩ ?_
      rw [if_neg hr]
  · rw [bi_0, Classical.not_not] at hp
    refine mqi ⟨wd, hm⟩ ?_
    rw [sLeaving, if_neg hp]
end MO5
end
section
/-! the model's offers, and sly -/
def MO (pt wo : Nat → Nat) (J : Sd → Prop) : Prop := (∀ p, pt p ≤ 99 ∧ wo p ≤ 99) ∧ ∀ m, J m → ∀ p, p < 6 → m.2.1 12 0 p = nI (pt p) ∧ m.2.1 13 0 p = nI (wo p)
section MO6
variable {n : Nat} {l : Nat → Nat → Nat → Nat} {JW : Option Nat → Nat → Sd → Prop} {c m : Sd} {pt wo : Nat → Nat}
theorem m_hasByWord (hW : MW n l JW) (hO : ∀ tl wd, MO pt wo (JW tl wd)) {wd : Nat} (hm : JW none wd m) (hn : ∀ tl wd m, JW tl wd m → m.1 0 0 0 = nI n) {p w : Nat} (hp : p < n) (hw : w ≤ 4) (aim : Int32) : Ctr 6 159 [vR true 0 0, vI (nI p), vI (nI w), vI aim] (c, m) (PM (J0 JW) c (gnV n l wo p w aim)) := by
  obtain ⟨⟨h1, h6⟩, hl, hK, hp1, hp2⟩ := id hW
  have hr6 := pow4_le h6
  have hr1 := pow4_pos n
  have main : ∀ tl : Option Nat, tl = (if w = 4 then none else some p) → Go 6 159 none 11 [some (vR true 0 0), some (vI (nI p)), some (vI (nI w)), some (vI aim)] [vI (optI tl), vR true 0 0] (c, m) (PM (J0 JW) c (gnV n l wo p w aim)) := by
    intro tl htl
    have hwt : tl ≠ none → w < 4 := by
      intro z
      rw [htl] at z
      by_cases h4 : w = 4
      · rw [if_pos h4] at z
        exact absurd rfl z
      · omega
    have htq : ∀ q, tl = some q → q < 6 := by
      intro q hq
      rw [htl] at hq
      split at hq
      · cases hq
      · cases hq
        omega
    obtain ⟨-, -, hR⟩ := clM_ok h6 hl hwt 0 (row := 4 ^ n - 1) (by omega)
    have hm1 := hp1 c m none wd tl htq hm
    have hm2 := hp2 c (sF (c, m) true 0 0 35 (optI tl)).2 tl wd w hm1
    have hst := m_goUpM (c := c) hW hwt hm2 (row := 4 ^ n - 1) (by omega) 0
    rw [← nI_sub1 hr1] at hst
    unfold gnV
    rw [← htl]
    refine go_ev 60 [] (iF (m_allRows h6 (hn _ _ _ hm2)) (by decide) (iC hst (by decide) ?_))
    rintro _ _ ⟨m2, rfl, hm2, g1, g2, g3, rfl⟩
    have hm3 := hp1 c m2 tl w none (fun q' hq => by cases hq) hm2
    have hn3 := hn _ _ _ hm3
    have hwo := ((hO none w).2 _ hm3 p (by omega)).2
    by_cases h1' : (clM n l tl w 0 (4 ^ n - 1)).2 = 1
    · rw [if_pos h1'] at g1 ⊢
      refine bT (c := (0 : Int32) ≤ m2.1 0 0 44) (by rw [g1]; exact nI_pos' (by omega)) ?_
      have hz := m_sumOf (c := c) h6 hn3 (row := clR n l tl w 0 (4 ^ n - 1)) (by omega)
      have hd := m_deed (c, (sF (c, m2) true 0 0 35 (optI none)).2) (row := clR n l tl w 0 (4 ^ n - 1)) (p := p) (by omega) (by omega)
      rw [← g1] at hz hd
      refine iF hz (by decide) ?_
      refine bI (fun ha => ?_) (fun ha => ?_)
      · refine iF hd (by decide) ?_
        refine mqi ⟨w, hm3⟩ ?_
        rw [if_neg (Int32.not_le.mpr ha)]
      · refine dI (vp6 (by omega)) ?_
        refine iF hd (by decide) ?_
        refine mqi ⟨w, hm3⟩ ?_
        rw [if_pos (Int32.not_lt.mp ha)]
        show m2.2.1 13 0 (nI p).toNatClampNeg - _ = _
        rw [nI_clamp (by omega)]
        rw [show m2.2.1 13 0 p = nI (wo p) from hwo]
    · rw [if_neg h1'] at g1 ⊢
      refine bF (c := (0 : Int32) ≤ m2.1 0 0 44) (by rw [g1]; decide) ?_
      exact mqi ⟨w, hm3⟩ rfl
  refine ctr_ev 60 [11] rfl rfl ?_
  refine bI (fun h4 => ?_) (fun h4 => ?_)
  · have h4 : w = 4 := by
      rw [show (4 : Int32) = nI 4 from rfl, nIle (by decide) (by omega)] at h4
      omega
    exact main none (by rw [if_pos h4])
  · have h4 : ¬ w = 4 := by
      rw [show (4 : Int32) = nI 4 from rfl, nIle (by decide) (by omega)] at h4
      omega
    exact main (some p) (by rw [if_neg h4])
theorem m_sly (hW : MW n l JW) (hO : ∀ tl wd, MO pt wo (JW tl wd)) (hm : J0 JW m) (hn : ∀ tl wd m, JW tl wd m → m.1 0 0 0 = nI n) (p aim x : Int32) : Ctr 7 160 [vR true 0 0, vI p, vI aim, vI x] (c, m) (PM (J0 JW) c (sSly n l wo p aim x)) := by
  obtain ⟨⟨h1, h6⟩, hl, -⟩ := id hW
  have hn0 : m.1 0 0 0 = nI n := by
    obtain ⟨wd, h⟩ := hm
    exact hn _ _ _ h
  refine ctr_ev 60 [53] rfl rfl (iF (m_noPerson hn0 p) (by decide) (bI (fun hp => ?_) (fun hp => ?_)))
  · rw [bi_0, Classical.not_not] at hp
    rw [sSly, if_pos hp]
    refine iF (m_in _ aim 0 18) (by decide) (bI (fun ha => ?_) (fun ha => ?_))
    · rw [bi_0] at ha
      refine mqi hm ?_
      rw [if_neg (fun z => ha z.1)]
    · rw [bi_0, Classical.not_not] at ha
      refine iF (m_in _ x 0 1) (by decide) (bI (fun hx => ?_) (fun hx => ?_))
      · rw [bi_0] at hx
        refine mqi hm ?_
        rw [if_neg (fun z => hx z.2)]
      · rw [bi_0, Classical.not_not] at hx
        rw [if_pos ⟨ha, hx⟩]
        obtain ⟨hk, he⟩ := clampP h1 (by omega) hp
        generalize tN p = q at hk he ⊢
        subst he
        generalize hg : (fun w => gnV n l wo q w aim) = g
        have hgw : ∀ w, gnV n l wo q w aim = g w := fun w => by rw [← hg]
        rw [hgw 4]
        have call : ∀ (w : Nat) (m : Sd), w ≤ 4 → J0 JW m → Ctr 6 159 [vR true 0 0, vI (nI q), vI (nI w), vI aim] (c, m) (PM (J0 JW) c (g w)) := by
          intro w m hw hm
          obtain ⟨wd, hm⟩ := hm
          have := m_hasByWord (c := c) hW hO hm hn (p := q) (w := w) hk hw aim
          rw [hgw] at this
          exact this
        have key : ∀ (j k : Nat) (y : Int32) (b : Int32 × Int32) (v7 : Option PV) (m : Sd), k + j = 4 → y = nI k → slyF g 4 0 (4, g 4) = slyF g j k b → J0 JW m → Go 7 160 none 53 [some (vR true 0 0), some (vI (nI q)), some (vI aim), some (vI x), some (vI b.1), some (vI b.2), some (vI y), v7] [] (c, m) (PM (J0 JW) c (if x = 0 then (slyF g 4 0 (4, g 4)).1 else 1000 + (slyF g 4 0 (4, g 4)).2)) := by
          intro j
          induction j with
          | zero =>
            intro k y b v7 m hk hy hf hm
            subst hy
            refine go_ev 40 [53] (bT (by rw [show (4 : Int32) = nI 4 from rfl, nIle (by decide) (by omega)]; omega) ?_)
            refine bI (fun h0 => ?_) (fun h0 => ?_)
            · refine mqi hm ?_
              rw [if_pos h0, hf]
              rfl
            · refine mqi hm ?_
              rw [if_neg h0, hf]
              rfl
          | succ j ih =>
            intro k y b v7 m hk hy hf hm
            subst hy
            refine go_ev 60 [53] (bF (by rw [show (4 : Int32) = nI 4 from rfl, nIle (by decide) (by omega)]; omega) ?_)
            refine iC (call k m (by omega) hm) (by decide) ?_
            rintro _ _ ⟨m2, rfl, hm2, rfl⟩
            refine bI (fun h0 => ?_) (fun h0 => ?_)
            · refine bT h0 ?_
              refine ih (k + 1) _ b _ m2 (by omega) (nI_succ k).symm ?_ hm2
              rw [hf]
              simp only [slyF]
              rw [if_neg (Int32.not_lt.mpr h0)]
            · refine bF h0 ?_
              refine ih (k + 1) _ (nI k, g k) _ m2 (by omega) (nI_succ k).symm ?_ hm2
              rw [hf]
              simp only [slyF]
              rw [if_pos (Int32.not_le.mp h0)]
        refine iC (call 4 m (by omega) hm) (by decide) ?_
        rintro _ _ ⟨m2, rfl, hm2, rfl⟩
        exact key 4 0 0 (4, g 4) none m2 (by omega) rfl rfl hm2
  · rw [bi_0, Classical.not_not] at hp
    refine mqi hm ?_
    rw [sSly, if_neg hp]
end MO6
section MO7
variable {n : Nat} {J : Sd → Prop} {c m : Sd} {pt wo : Nat → Nat}
theorem m_comes (h6 : n ≤ 6) (hn : m.1 0 0 0 = nI n) (hO : MO pt wo J) (hm : J m) {s : Nat} (hs : s < 2 ^ 31) (goal : Int32) : Fn 1 153 [vR true 0 0, vI (nI s), vI goal] (c, m) (c, m) (some (vI (bi (goal ≤ nI (plg pt s n))))) := by
  obtain ⟨hb, ho⟩ := hO
  have key : ∀ (j k : Nat) (x a : Int32), k + j = n → x = nI k → a = nI (plg pt s k) → Go 1 153 none 5 [some (vR true 0 0), some (vI (nI s)), some (vI goal), some (vI a), some (vI x)] [] (c, m) (fun w' r' => w' = (c, m) ∧ r' = some (vI (bi (goal ≤ nI (plg pt s n))))) := by
    intro j
    induction j with
    | zero =>
      intro k x a hk hx ha
      refine go_ev 40 [5] (bT (c := m.1 0 0 0 ≤ x) (by rw [hn, hx, nIle (by omega) (by omega)]; omega) ?_)
      rw [show k = n by omega] at ha
      subst ha
      refine bI (fun h => ?_) (fun h => ?_)
      · exact And.intro rfl (And.intro rfl (by rw [bi_f (Int32.not_le.mpr h)]))
      · exact And.intro rfl (And.intro rfl (by rw [bi_t (Int32.not_lt.mp h)]))
    | succ j ih =>
      intro k x a hk hx ha
      subst hx
      refine go_ev 40 [5] (bF (c := m.1 0 0 0 ≤ nI k) (by rw [hn, nIle (by omega) (by omega)]; omega) ?_)
      refine dI (vp6 (by omega)) ?_
      refine ih (k + 1) _ _ (by omega) (nI_succ k).symm ?_
      show a + ((nI s >>> (nI k &&& 31)) &&& 1) * m.2.1 12 0 (nI k).toNatClampNeg = _
      rw [ha, nI_clamp (by omega), (ho m hm k (by omega)).1, nI_bit hs (by omega), pk_mul, nIadd]
      congr 1
      simp only [plg, Nat.testBit_eq_decide_div_mod_eq, decide_eq_true_eq]
      split
      · rename_i h
        rw [h, Nat.one_mul]
      · rename_i h
        have : s / 2 ^ k % 2 = 0 := by omega
        rw [this, Nat.zero_mul]
  refine ctr_ev 40 [5] rfl rfl ?_
  exact key n 0 0 0 (by omega) rfl rfl
theorem m_hasBy (h6 : n ≤ 6) (hn : m.1 0 0 0 = nI n) (hO : MO pt wo J) (hm : J m) {p s : Nat} (hp : p < 6) (hs : s < 2 ^ 31) (goal top : Int32) : Fn 2 154 [vR true 0 0, vI (nI p), vI (nI s), vI goal, vI top] (c, m) (c, m) (some (vI (hbv pt wo n goal top p s))) := by
  have hw := (hO.2 m hm p hp).2
  have hq := (hO.2 m hm p hp).1
  have hcl : (nI p).toNatClampNeg = p := nI_clamp (by omega)
  refine ctr_ev 60 [] rfl rfl (bI (c := (nI s >>> (nI p &&& 31)) &&& 1 = 1) (fun hb => ?_) (fun hb => ?_))
  · rw [nI_bit1 hs (by omega)] at hb
    refine iF (m_comes h6 hn hO hm hs goal) (by decide) (bI (fun hg => ?_) (fun hg => ?_))
    · rw [bi_0] at hg
      refine bF (by decide) (And.intro rfl ?_)
      rw [hbv, if_neg hg, if_pos hb]
    · rw [bi_0, Classical.not_not] at hg
      refine dI (vp6 hp) (bF (by decide) (dI (vp6 hp) (And.intro rfl ?_)))
      rw [hbv, if_pos hg, if_pos hb, ← hw, ← hq]
      show some (vI (m.2.1 13 0 (nI p).toNatClampNeg - m.2.1 12 0 (nI p).toNatClampNeg)) = _
      rw [hcl]
  · rw [nI_bit1 hs (by omega)] at hb
    refine iF (m_comes h6 hn hO hm hs goal) (by decide) (bI (fun hg => ?_) (fun hg => ?_))
    · rw [bi_0] at hg
      refine bT rfl (And.intro rfl ?_)
      rw [hbv, if_neg hg, if_neg hb]
    · rw [bi_0, Classical.not_not] at hg
      refine dI (vp6 hp) (bT rfl (And.intro rfl ?_))
      rw [hbv, if_pos hg, if_neg hb, ← hw]
      show some (vI (m.2.1 13 0 (nI p).toNatClampNeg - 0)) = _
      rw [hcl, Int32.sub_zero]
theorem sx_xor : ∀ s, s < 64 → ∀ p, p < 6 → nI s ^^^ ((1 : Int32) <<< (nI p &&& 31)) = nI (sx s p) := by decide +kernel
theorem sx_lt : ∀ s, s < 64 → ∀ p, p < 6 → sx s p < 128 := by decide +kernel
theorem m_isResting (h6 : n ≤ 6) (hn : m.1 0 0 0 = nI n) (hO : MO pt wo J) (hm : J m) {s : Nat} (hs : s < 64) (goal top : Int32) : Fn 3 155 [vR true 0 0, vI (nI s), vI goal, vI top] (c, m) (c, m) (some (vI (bi (rsB pt wo n goal top s = true)))) := by
  have key : ∀ (j k : Nat) (x a : Int32), k + j = n → x = nI k → (a = 1 ∧ fst (fun p => !decide (hbv pt wo n goal top p (sx s p) ≤ hbv pt wo n goal top p s)) n 0 = fst (fun p => !decide (hbv pt wo n goal top p (sx s p) ≤ hbv pt wo n goal top p s)) j k ∨ a = 0 ∧ fst (fun p => !decide (hbv pt wo n goal top p (sx s p) ≤ hbv pt wo n goal top p s)) n 0 ≠ none) → Go 3 155 none 6 [some (vR true 0 0), some (vI (nI s)), some (vI goal), some (vI top), some (vI a), some (vI x)] [] (c, m) (fun w' r' => w' = (c, m) ∧ r' = some (vI (bi (rsB pt wo n goal top s = true)))) := by
    intro j
    induction j with
    | zero =>
      intro k x a hk hx ha
      refine go_ev 40 [6] (bT (c := m.1 0 0 0 ≤ x) (by rw [hn, hx, nIle (by omega) (by omega)]; omega) ?_)
      rcases ha with ⟨rfl, hf⟩ | ⟨rfl, hf⟩
      · refine And.intro rfl (And.intro rfl ?_)
        rw [bi_t]
        unfold rsB
        rw [hf]
        rfl
      · refine And.intro rfl (And.intro rfl ?_)
        rw [bi_f]
        unfold rsB
        simpa using hf
    | succ j ih =>
      intro k x a hk hx ha
      subst hx
      refine go_ev 60 [6] (bF (c := m.1 0 0 0 ≤ nI k) (by rw [hn, nIle (by omega) (by omega)]; omega) ?_)
      rcases ha with ⟨rfl, hf⟩ | ⟨rfl, hf⟩
      · refine bF (by decide) ?_
        have hsl := sx_lt s hs k (by omega)
        have hx1 := m_hasBy (c := c) h6 hn hO hm (p := k) (s := sx s k) (by omega) (by omega) goal top
        rw [← sx_xor s hs k (by omega)] at hx1
        refine iF hx1 (by decide) ?_
        refine iF (m_hasBy h6 hn hO hm (p := k) (s := s) (by omega) (by omega) goal top) (by decide) ?_
        refine bI (fun h => ?_) (fun h => ?_)
        · refine ih (k + 1) _ _ (by omega) (nI_succ k).symm (Or.inr ⟨rfl, ?_⟩)
          rw [hf]
          simp only [fst]
          rw [if_pos (by simp only [Bool.not_eq_true', decide_eq_false_iff_not]; exact Int32.not_le.mpr h)]
          simp
        · refine ih (k + 1) _ _ (by omega) (nI_succ k).symm (Or.inl ⟨rfl, ?_⟩)
          rw [hf]
          simp only [fst]
          rw [if_neg (by simp only [Bool.not_eq_true', decide_eq_false_iff_not, Classical.not_not]; exact Int32.not_lt.mp h)]
      · refine bT rfl ?_
        refine And.intro rfl (And.intro rfl ?_)
        rw [bi_f]
        unfold rsB
        simpa using hf
  refine ctr_ev 40 [6] rfl rfl ?_
  exact key n 0 0 1 (by omega) rfl (Or.inl ⟨rfl, rfl⟩)
theorem m_rests (h1 : 1 ≤ n) (h6 : n ≤ 6) (hn : ∀ m, J m → m.1 0 0 0 = nI n) (hO : MO pt wo J) (hm : J m) (s goal top : Int32) : Ctr 4 157 [vR true 0 0, vI s, vI goal, vI top] (c, m) (PM J c (sRests pt wo n s goal top)) := by
  have h64 := pow2_le h6
  have h : Fn 0 92 [vL s.toInt64, vL (0 : Int32).toInt64, vL (((1 : Int32) <<< (m.1 0 0 0 &&& 31)) - 1).toInt64] (c, m) (c, m) (some (vI (bi (inS n s)))) := by
    rw [hn m hm, nI_sets h6]
    exact m_in _ _ _ _
  refine ctr_ev 60 [] rfl rfl (iF h (by decide) (bI (fun h => ?_) (fun h => ?_)))
  · rw [bi_0] at h
    refine mqi hm ?_
    rw [sRests, if_neg h]
  · rw [bi_0, Classical.not_not] at h
    rw [sRests, if_pos h]
    refine iF (m_isGoal _ goal) (by decide) (bI (fun hg => ?_) (fun hg => ?_))
    · rw [bi_0] at hg
      refine mqi hm ?_
      rw [if_neg (fun z => hg z.1)]
    · rw [bi_0, Classical.not_not] at hg
      refine iF (m_in _ top 0 99) (by decide) (bI (fun ht => ?_) (fun ht => ?_))
      · rw [bi_0] at ht
        refine mqi hm ?_
        rw [if_neg (fun z => ht z.2)]
      · rw [bi_0, Classical.not_not] at ht
        rw [if_pos ⟨hg, ht⟩]
        obtain ⟨hk, he⟩ := clampP (pow2_pos n) (by omega) h
        generalize tN s = k at hk he ⊢
        subst he
        refine iF (m_isResting h6 (hn m hm) hO hm (by omega) goal top) (by decide) ?_
        refine iF (m_one _ _) (by decide) ?_
        refine mqi hm ?_
        by_cases hb : rsB pt wo n goal top k = true
        · rw [bi_t hb, bi_t (by decide)]
        · rw [bi_f hb, bi_f (by decide)]
theorem m_leastTop (h1 : 1 ≤ n) (h6 : n ≤ 6) (hn : ∀ m, J m → m.1 0 0 0 = nI n) (hO : MO pt wo J) (hm : J m) (goal : Int32) : Ctr 5 158 [vR true 0 0, vI goal] (c, m) (PM J c (sLeastTop pt wo n goal)) := by
  have h64 := pow2_le h6
  have hsz : (1 : Int32) <<< (m.1 0 0 0 &&& 31) = nI (2 ^ n) := by rw [hn m hm, nI_sets h6]
  refine ctr_ev 60 [13] rfl rfl (iF (m_isGoal _ goal) (by decide) (bI (fun hg => ?_) (fun hg => ?_)))
  · rw [bi_0] at hg
    refine mqi hm ?_
    rw [sLeastTop, if_neg hg]
  · rw [bi_0, Classical.not_not] at hg
    rw [sLeastTop, if_pos hg]
    have key : ∀ (j k : Nat) (x : Int32) (v3 v4 v5 : Option PV), k + j = 100 → x = nI k → fst (fun top => rch pt wo n goal (nI top)) 100 0 = fst (fun top => rch pt wo n goal (nI top)) j k → Go 5 158 none 13 [some (vR true 0 0), some (vI goal), some (vI x), v3, v4, v5] [] (c, m) (PM J c (optI (fst (fun top => rch pt wo n goal (nI top)) 100 0))) := by
      intro j
      induction j with
      | zero =>
        intro k x v3 v4 v5 hk hx hf
        subst hx
        refine go_ev 40 [13] (bT (by rw [show (100 : Int32) = nI 100 from rfl, nIle (by decide) (by omega)]; omega) ?_)
        refine mqi hm ?_
        rw [hf]
        rfl
      | succ j ih =>
        intro k x v3 v4 v5 hk hx hf
        subst hx
        refine go_ev 40 [13, 27] (bF (by rw [show (100 : Int32) = nI 100 from rfl, nIle (by decide) (by omega)]; omega) ?_)
        have inner : ∀ (i s : Nat) (y some_ all_ : Int32), s + i = 2 ^ n → y = nI s → some_ = bi ((fst (rsB pt wo n goal (nI k)) s 0).isSome = true) → all_ = bi ((fst (fun s => rsB pt wo n goal (nI k) s && !decide (goal ≤ nI (plg pt s n))) s 0).isNone = true) → Go 5 158 none 27 [some (vR true 0 0), some (vI goal), some (vI (nI k)), some (vI some_), some (vI all_), some (vI y)] [] (c, m) (PM J c (optI (fst (fun top => rch pt wo n goal (nI top)) 100 0))) := by
          intro i
          induction i with
          | zero =>
            intro s y some_ all_ hs hy hso hal
            refine go_ev 40 [13, 27] (bT (c := (1 : Int32) <<< (m.1 0 0 0 &&& 31) ≤ y) (by rw [hsz, hy, nIle (by omega) (by omega)]; omega) ?_)
            subst hso hal
            rw [show s = 2 ^ n by omega]
            have next : ¬ rch pt wo n goal (nI k) = true → ∀ a b d : Option PV, Go 5 158 none 13 [some (vR true 0 0), some (vI goal), some (vI (nI k + 1)), a, b, d] [] (c, m) (PM J c (optI (fst (fun top => rch pt wo n goal (nI top)) 100 0))) := by
              intro hr a b d
              refine ih (k + 1) _ _ _ _ (by omega) (nI_succ k).symm ?_
              rw [hf]
              simp [fst, hr]
            refine bI (fun h => ?_) (fun h => ?_)
            · rw [bi_0] at h
              exact next (by unfold rch; simp [h]) _ _ _
            · rw [bi_0, Classical.not_not] at h
              refine bI (fun h2 => ?_) (fun h2 => ?_)
              · rw [bi_0] at h2
                exact next (by unfold rch; simp [h2]) _ _ _
              · rw [bi_0, Classical.not_not] at h2
                refine mqi hm ?_
                rw [hf]
                simp only [fst]
                rw [if_pos (by unfold rch; simp [h, h2])]
                rfl
          | succ i ih2 =>
            intro s y some_ all_ hs hy hso hal
            subst hy hso hal
            have hs1 := fst_snoc (rsB pt wo n goal (nI k)) s 0
            have hs2 := fst_snoc (fun s => rsB pt wo n goal (nI k) s && !decide (goal ≤ nI (plg pt s n))) s 0
            rw [Nat.zero_add] at hs1 hs2
            refine go_ev 60 [13, 27] (bF (c := (1 : Int32) <<< (m.1 0 0 0 &&& 31) ≤ nI s) (by rw [hsz, nIle (by omega) (by omega)]; omega) ?_)
            refine iF (m_isResting h6 (hn m hm) hO hm (s := s) (by omega) goal (nI k)) (by decide) ?_
            refine bI (fun h => ?_) (fun h => ?_)
            · rw [bi_0] at h
              refine ih2 (s + 1) _ _ _ (by omega) (nI_succ s).symm ?_ ?_
              · rw [hs1]
                cases fst (rsB pt wo n goal (nI k)) s 0 <;> simp [h]
              · rw [hs2]
                cases fst (fun s => rsB pt wo n goal (nI k) s && !decide (goal ≤ nI (plg pt s n))) s 0 <;> simp [h]
            · rw [bi_0, Classical.not_not] at h
              have hsome : (1 : Int32) = bi ((fst (rsB pt wo n goal (nI k)) (s + 1) 0).isSome = true) := by
                rw [bi_t]
                rw [hs1]
                cases fst (rsB pt wo n goal (nI k)) s 0 <;> simp [h]
              refine bI (fun h2 => ?_) (fun h2 => ?_)
              · rw [bi_0] at h2
                refine ih2 (s + 1) _ _ _ (by omega) (nI_succ s).symm hsome ?_
                rw [bi_f]
                rw [hs2]
                cases hq : fst (fun s => rsB pt wo n goal (nI k) s && !decide (goal ≤ nI (plg pt s n))) s 0 with
                | none => rw [hq] at h2; simp at h2
                | some z => simp
              · rw [bi_0, Classical.not_not] at h2
                have hnone := Option.isNone_iff_eq_none.mp h2
                refine iF (m_comes h6 (hn m hm) hO hm (s := s) (by omega) goal) (by decide) ?_
                refine bI (fun h3 => ?_) (fun h3 => ?_)
                · rw [bi_0] at h3
                  refine ih2 (s + 1) _ _ _ (by omega) (nI_succ s).symm hsome ?_
                  rw [bi_f]
                  rw [hs2, hnone]
                  simp [h, h3]
                · rw [bi_0, Classical.not_not] at h3
                  refine ih2 (s + 1) _ _ _ (by omega) (nI_succ s).symm hsome ?_
                  rw [bi_t]
                  rw [hs2, hnone]
                  simp [h3]
        exact inner (2 ^ n) 0 0 0 1 (by omega) rfl (by rw [bi_f (by simp [fst])]) (by rw [bi_t (by simp [fst])])
    exact key 100 0 0 none none none (by omega) rfl rfl
end MO7
end
section
/-! terms: what one lets. A step: (kind, from, to, many, give, told); kinds 0 who, 1 all, 2 any, 3 sum, 4 day, 5 not, 6 and, 7 or -/
abbrev StpT : Type := Nat × Nat × Nat × Nat × Nat × Bool
def oth (p fr to q : Nat) : Bool := q != p && (decide (fr ≤ q) && decide (q ≤ to))
def sumX (p row : Nat) : Nat → Nat
  | 0 => 0
  | k + 1 => sumX p row k + (if k = p then 0 else dd row k)
def stpV (n p row day k fr to many give : Nat) : Bool :=
  if k = 0 then decide (give ≤ (if fr = p ∨ n ≤ fr then 0 else dd row fr))
  else if k = 4 then decide (day ≤ many)
  else if k = 3 then decide (many ≤ sumX p row n)
  else if k = 1 then decide (cntB (fun q => oth p fr to q && decide (give ≤ dd row q)) n = cntB (oth p fr to) n)
  else decide (many ≤ cntB (fun q => oth p fr to q && decide (give ≤ dd row q)) n)
def lstK (p row : Nat) : Nat → Nat
  | 0 => 3
  | k + 1 => if k = p then lstK p row k else min (lstK p row k) (dd row k)
def mstK (p row : Nat) : Nat → Nat
  | 0 => 0
  | k + 1 => if k = p then mstK p row k else max (mstK p row k) (dd row k)
def muchV (n p row kd of : Nat) : Nat :=
  if kd = 0 then of
  else if kd = 1 then (if of = p ∨ n ≤ of then 0 else dd row of)
  else if kd = 2 then (if n ≤ 1 then 0 else lstK p row n)
  else mstK p row n
theorem cntB_le (f : Nat → Bool) : ∀ k, cntB f k ≤ k
  | 0 => Nat.le_refl _
  | k + 1 => by
    have := cntB_le f k
    simp only [cntB]
    split <;> omega
theorem sumX_le (p row : Nat) : ∀ k, sumX p row k ≤ 3 * k
  | 0 => Nat.le_refl _
  | k + 1 => by
    have := sumX_le p row k
    have := dd_lt row k
    simp only [sumX]
    split <;> omega
theorem lstK_le (p row : Nat) : ∀ k, lstK p row k ≤ 3
  | 0 => Nat.le_refl _
  | k + 1 => by
    have := lstK_le p row k
    simp only [lstK]
    split
    · exact this
    · exact Nat.le_trans (Nat.min_le_left _ _) this
theorem mstK_le (p row : Nat) : ∀ k, mstK p row k ≤ 3
  | 0 => Nat.zero_le _
  | k + 1 => by
    have := mstK_le p row k
    have := dd_lt row k
    simp only [mstK]
    split <;> omega
theorem wdd_parts (row p d : Nat) : row = 4 ^ p * (4 * (row / 4 ^ p / 4) + dd row p) + row % 4 ^ p ∧ wdd row p d = 4 ^ p * (4 * (row / 4 ^ p / 4) + d) + row % 4 ^ p := by
  have h1 := Nat.div_add_mod row (4 ^ p)
  have h2 := Nat.div_add_mod (row / 4 ^ p) 4
  have h3 : 4 * (row / 4 ^ p / 4) + dd row p = row / 4 ^ p := h2
  refine ⟨by rw [h3, h1], ?_⟩
  unfold wdd
  generalize hh : row / 4 ^ p / 4 = h at h3 ⊢
  generalize hP : 4 ^ p = P at h1 h3 ⊢
  rw [Nat.mul_add]
  have h4 : row = P * (4 * h) + P * dd row p + row % P := by rw [← Nat.mul_add, h3, h1]
  rw [Nat.mul_comm (dd row p) P, Nat.mul_comm d P]
  omega
theorem dd_parts_eq {P h d lo p : Nat} (hP : P = 4 ^ p) (hd : d < 4) (hlo : lo < P) : dd (P * (4 * h + d) + lo) p = d := by
  unfold dd
  subst hP
  rw [Nat.mul_add_div (pow4_pos p), Nat.div_eq_of_lt hlo]
  omega
theorem dd_parts_h1 {h d lo p j : Nat} (hd : d < 4) (hlo : lo < 4 ^ p) : (4 ^ p * (4 * h + d) + lo) / (4 ^ p * (4 * 4 ^ j)) = h / 4 ^ j := by
  rw [← Nat.div_div_eq_div_mul, Nat.mul_add_div (pow4_pos p), Nat.div_eq_of_lt hlo, ← Nat.div_div_eq_div_mul]
  have a : (4 * h + d + 0) / 4 = h := by omega
  rw [a]
theorem dd_parts_hi {h d d' lo p q : Nat} (hd : d < 4) (hd' : d' < 4) (hlo : lo < 4 ^ p) (hq : p < q) : dd (4 ^ p * (4 * h + d) + lo) q = dd (4 ^ p * (4 * h + d') + lo) q := by
  obtain ⟨j, rfl⟩ : ∃ j, q = p + 1 + j := ⟨q - p - 1, by omega⟩
  unfold dd
  have e : 4 ^ (p + 1 + j) = 4 ^ p * (4 * 4 ^ j) := by rw [Nat.pow_add, Nat.pow_succ, Nat.mul_assoc]
  rw [e, dd_parts_h1 hd hlo, dd_parts_h1 hd' hlo]
theorem dd_parts_lo {X lo p q : Nat} (hq : q < p) : dd (4 ^ p * X + lo) q = dd lo q := by
  obtain ⟨j, rfl⟩ : ∃ j, p = q + 1 + j := ⟨p - q - 1, by omega⟩
  unfold dd
  have e : 4 ^ (q + 1 + j) * X = 4 ^ q * (4 * (4 ^ j * X)) := by
    rw [Nat.pow_add, Nat.pow_succ]
    simp only [Nat.mul_assoc]
  rw [e, Nat.mul_add_div (pow4_pos q)]
  omega
theorem dd_wdd {row p q d : Nat} (hd : d < 4) : dd (wdd row p d) q = if q = p then d else dd row q := by
  obtain ⟨h1, h2⟩ := wdd_parts row p d
  have hlo := Nat.mod_lt row (pow4_pos p)
  have hd0 := dd_lt row p
  rw [h2]
  by_cases hq : q = p
  · subst hq
    rw [if_pos rfl]
    exact dd_parts_eq rfl hd hlo
  · rw [if_neg hq]
    rcases Nat.lt_or_ge q p with h | h
    · rw [dd_parts_lo h]
      have : dd row q = dd (4 ^ p * (4 * (row / 4 ^ p / 4) + dd row p) + row % 4 ^ p) q := by rw [← h1]
      rw [this, dd_parts_lo h]
    · rw [dd_parts_hi hd hd0 hlo (by omega)]
      rw [← h1]
/-- what one looks at -/
def Scn (c : Sd) (n p row day : Nat) : Prop := c.1 19 0 0 = nI p ∧ c.1 19 0 1 = nI (wdd row p 0) ∧ c.1 19 0 2 = nI day ∧ c.1 19 0 3 = nI n
section SCE
variable {n p row day : Nat} {c m : Sd}
theorem c_look (hp : p < 6) (hr : row < 4096) (d s : Int32) : Fn 1 31 [vR false 19 0, vI (nI p), vI (nI row), vI d, vI s] (c, m) (sF (sF (sF (sF (c, m) false 19 0 0 (nI p)) false 19 0 1 (nI (wdd row p 0))) false 19 0 2 d) false 19 0 3 s) none :=
  ctr_ev 30 [] rfl rfl (iF (c_withDeedN _ hr hp (by decide)) (by decide) (And.intro rfl rfl))
theorem digit (hs : Scn c n p row day) (hn : n ≤ 6) (hp : p < n) (hr : row < 4 ^ n) {q : Nat} (hq : q < 16) : (c.1 19 0 1 >>> ((2 * nI q) &&& 31)) &&& 3 = nI (if q = p then 0 else dd row q) := by
  have h6 := pow4_le hn
  have hw := wdd_lt hr hp (show 0 < 4 by decide)
  rw [hs.2.1, nI_dd (by omega) hq, dd_wdd (by decide)]
theorem c_most (hs : Scn c n p row day) (hn : n ≤ 6) (hp : p < n) (hr : row < 4 ^ n) : Fn 0 33 [vR false 19 0] (c, m) (c, m) (some (vI (nI (mstK p row n)))) := by
  have key : ∀ (j k : Nat) (x a : Int32) (v3 : Option PV), k + j = n → x = nI k → a = nI (mstK p row k) → Go 0 33 none 4 [some (vR false 19 0), some (vI a), some (vI x), v3] [] (c, m) (fun w' r' => w' = (c, m) ∧ r' = some (vI (nI (mstK p row n)))) := by
    intro j
    induction j with
    | zero =>
      intro k x a v3 hk hx ha
      refine go_ev 40 [4] (bT (c := c.1 19 0 3 ≤ x) (by rw [hs.2.2.2, hx, nIle (by omega) (by omega)]; omega) (And.intro rfl ?_))
      rw [ha, show k = n by omega]
    | succ j ih =>
      intro k x a v3 hk hx ha
      subst hx ha
      have hm := mstK_le p row k
      have hd := dd_lt row k
      have hdg := digit hs hn hp hr (q := k) (by omega)
      refine go_ev 40 [4] (bF (c := c.1 19 0 3 ≤ nI k) (by rw [hs.2.2.2, nIle (by omega) (by omega)]; omega) ?_)
      refine bI (c := (c.1 19 0 1 >>> ((2 * nI k) &&& 31)) &&& 3 ≤ nI (mstK p row k)) (fun h => ?_) (fun h => ?_)
      · refine ih (k + 1) _ _ _ (by omega) (nI_succ k).symm ?_
        rw [hdg, nIle (by split <;> omega) (by omega)] at h
        congr 1
        simp only [mstK]
        split
        · rfl
        · rename_i hk
          rw [if_neg hk] at h
          omega
      · refine ih (k + 1) _ _ _ (by omega) (nI_succ k).symm ?_
        show (c.1 19 0 1 >>> ((2 * nI k) &&& 31)) &&& 3 = _
        rw [hdg, nIle (by split <;> omega) (by omega)] at h
        rw [hdg]
        congr 1
        simp only [mstK]
        split
        · rename_i hk
          rw [if_pos hk] at h
          omega
        · rename_i hk
          rw [if_neg hk] at h
          omega
  refine ctr_ev 40 [4] rfl rfl ?_
  exact key n 0 0 0 none (by omega) rfl rfl
theorem c_least (hs : Scn c n p row day) (hn : n ≤ 6) (hp : p < n) (hr : row < 4 ^ n) : Fn 0 32 [vR false 19 0] (c, m) (c, m) (some (vI (nI (if n ≤ 1 then 0 else lstK p row n)))) := by
  have key : ∀ (j k v : Nat) (x a : Int32) (v3 : Option PV), k + j = n → x = nI k → a = nI v → v = (if n ≤ 1 then 0 else lstK p row k) → Go 0 32 none 16 [some (vR false 19 0), some (vI a), some (vI x), v3] [] (c, m) (fun w' r' => w' = (c, m) ∧ r' = some (vI (nI (if n ≤ 1 then 0 else lstK p row n)))) := by
    intro j
    induction j with
    | zero =>
      intro k v x a v3 hk hx ha hv
      refine go_ev 40 [16] (bT (c := c.1 19 0 3 ≤ x) (by rw [hs.2.2.2, hx, nIle (by omega) (by omega)]; omega) (And.intro rfl ?_))
      rw [ha, hv, show k = n by omega]
    | succ j ih =>
      intro k v x a v3 hk hx ha hv
      subst hx ha
      have hm := lstK_le p row k
      have hd := dd_lt row k
      have hv3 : v ≤ 3 := by
        rw [hv]
        split <;> omega
      have hdg := digit hs hn hp hr (q := k) (by omega)
      refine go_ev 40 [16] (bF (c := c.1 19 0 3 ≤ nI k) (by rw [hs.2.2.2, nIle (by omega) (by omega)]; omega) ?_)
      refine bI (c := nI k = c.1 19 0 0) (fun h => ?_) (fun h => ?_)
      · rw [hs.1, nIeq (by omega) (by omega)] at h
        refine ih (k + 1) v _ _ _ (by omega) (nI_succ k).symm rfl ?_
        rw [hv]
        simp only [lstK, if_pos h]
      · rw [hs.1, nIeq (by omega) (by omega)] at h
        rw [if_neg h] at hdg
        refine bI (c := nI v ≤ (c.1 19 0 1 >>> ((2 * nI k) &&& 31)) &&& 3) (fun h2 => ?_) (fun h2 => ?_)
        · rw [hdg, nIle (by omega) (by omega)] at h2
          refine ih (k + 1) v _ _ _ (by omega) (nI_succ k).symm rfl ?_
          rw [hv]
          split
          · rfl
          · rename_i h1
            rw [if_neg h1] at hv
            simp only [lstK, if_neg h]
            omega
        · rw [hdg, nIle (by omega) (by omega)] at h2
          refine ih (k + 1) (dd row k) _ _ _ (by omega) (nI_succ k).symm hdg ?_
          split
          · rename_i h1
            rw [if_pos h1] at hv
            omega
          · rename_i h1
            rw [if_neg h1] at hv
            simp only [lstK, if_neg h]
            omega
  refine ctr_ev 40 [16] rfl rfl (bI (c := c.1 19 0 3 ≤ 1) (fun h => ?_) (fun h => ?_))
  · rw [hs.2.2.2, show (1 : Int32) = nI 1 from rfl, nIle (by omega) (by decide)] at h
    exact key n 0 0 0 0 none (by omega) rfl rfl (by rw [if_pos h])
  · rw [hs.2.2.2, show (1 : Int32) = nI 1 from rfl, nIle (by omega) (by decide)] at h
    exact key n 0 3 0 3 none (by omega) rfl rfl (by rw [if_neg h]; rfl)
theorem c_much (hs : Scn c n p row day) (hn : n ≤ 6) (hp : p < n) (hr : row < 4 ^ n) {kd of : Nat} (hk : kd < 4) (ho : of < 6) : Fn 1 41 [vI (nI kd), vI (nI of), vR false 19 0] (c, m) (c, m) (some (vI (nI (muchV n p row kd of)))) := by
  have h6 := pow4_le hn
  have hw := wdd_lt hr hp (show 0 < 4 by decide)
  have ho1 := hs.2.1
  refine ctr_ev 40 [] rfl rfl ?_
  refine bI (c := nI kd = Int32.ofInt 1) (fun h => ?_) (fun h => bI (c := nI kd = Int32.ofInt 2) (fun h2 => ?_) (fun h2 => bI (c := nI kd = Int32.ofInt 3) (fun h3 => ?_) (fun h3 => ?_)))
  · have h : kd = 1 := (nIeq (by omega) (by decide)).mp h
    subst h
    have hd := c_deedN (c, m) (row := wdd row p 0) (p := of) (by omega) (by omega)
    rw [← ho1, dd_wdd (by decide)] at hd
    refine iF hd (by decide) (And.intro rfl ?_)
    show _ = some (vI (nI (if of = p ∨ n ≤ of then 0 else dd row of)))
    congr 3
    by_cases hop : of = p
    · rw [if_pos hop, if_pos (Or.inl hop)]
    · rw [if_neg hop]
      by_cases hon : n ≤ of
      · rw [if_pos (Or.inr hon), dd_out hr hon]
      · rw [if_neg (show ¬ (of = p ∨ n ≤ of) by omega)]
  · have h2 : kd = 2 := (nIeq (by omega) (by decide)).mp h2
    subst h2
    exact iF (c_least hs hn hp hr) (by decide) (And.intro rfl rfl)
  · have h3 : kd = 3 := (nIeq (by omega) (by decide)).mp h3
    subst h3
    exact iF (c_most hs hn hp hr) (by decide) (And.intro rfl rfl)
  · have h : ¬ kd = 1 := fun z => h (by rw [z]; rfl)
    have h2 : ¬ kd = 2 := fun z => h2 (by rw [z]; rfl)
    have h3 : ¬ kd = 3 := fun z => h3 (by rw [z]; rfl)
    have h0 : kd = 0 := by omega
    subst h0
    exact And.intro rfl rfl
end SCE
end
section
/-! whether one condition holds -/
section ISO
variable {n p row day : Nat} {c m : Sd}
theorem c_isSo (hs : Scn c n p row day) (hn : n ≤ 6) (hp : p < n) (hr : row < 4 ^ n) (hday : day ≤ 9) {kk fr to many give : Nat} (hk : kk < 5) (hf : fr < 6) (ht : to < 6) (hm : many < 100) (hg : give < 100) : Fn 0 34 [vR false 19 0, vI (nI (kk + 3)), vI (nI fr), vI (nI to), vI (nI many), vI (nI give)] (c, m) (c, m) (some (vI (bi (stpV n p row day kk fr to many give = true)))) := by
  have e3 : ∀ q, (nI (kk + 3) = nI (q + 3) ∧ q < 5) → kk = q := fun q h => by
    have := (nIeq (by omega) (by omega)).mp h.1
    omega
  have key : ∀ (j k : Nat) (x a g s : Int32) (v10 : Option PV), k + j = n → x = nI k → a = nI (cntB (oth p fr to) k) → g = nI (cntB (fun q => oth p fr to q && decide (give ≤ dd row q)) k) → s = nI (sumX p row k) → kk ≠ 0 → kk ≠ 4 → Go 0 34 none 59 [some (vR false 19 0), some (vI (nI (kk + 3))), some (vI (nI fr)), some (vI (nI to)), some (vI (nI many)), some (vI (nI give)), some (vI a), some (vI g), some (vI s), some (vI x), v10] [] (c, m) (fun w' r' => w' = (c, m) ∧ r' = some (vI (bi (stpV n p row day kk fr to many give = true)))) := by
    intro j
    induction j with
    | zero =>
      intro k x a g s v10 hkn hx ha hgv hsv h0 h4
      have hkn : k = n := by omega
      subst hkn
      have b1 := cntB_le (oth p fr to) k
      have b2 := cntB_le (fun q => oth p fr to q && decide (give ≤ dd row q)) k
      have b3 := sumX_le p row k
      subst hx ha hgv hsv
      refine go_ev 60 [59] (bT (c := c.1 19 0 3 ≤ nI k) (by rw [hs.2.2.2, nIle (by omega) (by omega)]; omega) ?_)
      refine bI (c := nI (kk + 3) = Int32.ofInt 6) (fun h => ?_) (fun h => ?_)
      · have h := e3 3 ⟨h, by decide⟩
        subst h
        refine bI (c := nI (sumX p row k) < nI many) (fun h2 => ?_) (fun h2 => ?_)
        · rw [nIlt (by omega) (by omega)] at h2
          refine And.intro rfl (And.intro rfl ?_)
          rw [bi_f]
          show ¬ decide (many ≤ sumX p row k) = true
          rw [decide_eq_true_eq]
          omega
        · rw [nIlt (by omega) (by omega)] at h2
          refine And.intro rfl (And.intro rfl ?_)
          rw [bi_t]
          show decide (many ≤ sumX p row k) = true
          rw [decide_eq_true_eq]
          omega
      · refine bI (c := nI (kk + 3) = 5) (fun h5 => ?_) (fun h5 => ?_)
        · have h5 := e3 2 ⟨h5, by decide⟩
          subst h5
          refine bI (c := nI (cntB (fun q => oth p fr to q && decide (give ≤ dd row q)) k) < nI many) (fun h2 => ?_) (fun h2 => ?_)
          · rw [nIlt (by omega) (by omega)] at h2
            refine And.intro rfl (And.intro rfl ?_)
            rw [bi_f]
            show ¬ decide (many ≤ cntB (fun q => oth p fr to q && decide (give ≤ dd row q)) k) = true
            rw [decide_eq_true_eq]
            omega
          · rw [nIlt (by omega) (by omega)] at h2
            refine And.intro rfl (And.intro rfl ?_)
            rw [bi_t]
            show decide (many ≤ cntB (fun q => oth p fr to q && decide (give ≤ dd row q)) k) = true
            rw [decide_eq_true_eq]
            omega
        · have h1 : kk = 1 := by
            have a3 : kk ≠ 3 := fun z => h (by rw [z]; rfl)
            have a2 : kk ≠ 2 := fun z => h5 (by rw [z]; rfl)
            omega
          subst h1
          refine bI (c := nI (cntB (fun q => oth p fr to q && decide (give ≤ dd row q)) k) = nI (cntB (oth p fr to) k)) (fun h2 => ?_) (fun h2 => ?_)
          · rw [nIeq (by omega) (by omega)] at h2
            refine And.intro rfl (And.intro rfl ?_)
            rw [bi_t]
            show decide (cntB (fun q => oth p fr to q && decide (give ≤ dd row q)) k = cntB (oth p fr to) k) = true
            rw [decide_eq_true_eq]
            exact h2
          · rw [nIeq (by omega) (by omega)] at h2
            refine And.intro rfl (And.intro rfl ?_)
            rw [bi_f]
            show ¬ decide (cntB (fun q => oth p fr to q && decide (give ≤ dd row q)) k = cntB (oth p fr to) k) = true
            rw [decide_eq_true_eq]
            exact h2
    | succ j ih =>
      intro k x a g s v10 hkn hx ha hgv hsv h0 h4
      subst hx ha hgv hsv
      have hd := dd_lt row k
      have hdg := digit hs hn hp hr (q := k) (by omega)
      have hsum : nI (sumX p row k) + ((c.1 19 0 1 >>> ((2 * nI k) &&& 31)) &&& 3) = nI (sumX p row (k + 1)) := by
        rw [hdg, nIadd]
        rfl
      refine go_ev 60 [59] (bF (c := c.1 19 0 3 ≤ nI k) (by rw [hs.2.2.2, nIle (by omega) (by omega)]; omega) ?_)
      refine bI (c := nI k = c.1 19 0 0) (fun h => ?_) (fun h => ?_)
      · rw [hs.1, nIeq (by omega) (by omega)] at h
        have ho : oth p fr to k = false := by
          unfold oth
          rw [h, bne_self_eq_false, Bool.false_and]
        refine ih (k + 1) _ _ _ _ _ (by omega) (nI_succ k).symm ?_ ?_ hsum h0 h4
        · simp only [cntB, ho]
          rfl
        · simp only [cntB, ho]
          rfl
      · rw [hs.1, nIeq (by omega) (by omega)] at h
        rw [if_neg h] at hdg
        refine bI (c := nI k < nI fr) (fun h1 => ?_) (fun h1 => bI (c := nI to < nI k) (fun h2 => ?_) (fun h2 => ?_))
        · rw [nIlt (by omega) (by omega)] at h1
          have ho : oth p fr to k = false := by
            unfold oth
            rw [show decide (fr ≤ k) = false from decide_eq_false (by omega), Bool.false_and, Bool.and_false]
          refine ih (k + 1) _ _ _ _ _ (by omega) (nI_succ k).symm ?_ ?_ hsum h0 h4
          · simp only [cntB, ho]
            rfl
          · simp only [cntB, ho]
            rfl
        · rw [nIlt (by omega) (by omega)] at h2
          have ho : oth p fr to k = false := by
            unfold oth
            rw [show decide (k ≤ to) = false from decide_eq_false (by omega), Bool.and_false, Bool.and_false]
          refine ih (k + 1) _ _ _ _ _ (by omega) (nI_succ k).symm ?_ ?_ hsum h0 h4
          · simp only [cntB, ho]
            rfl
          · simp only [cntB, ho]
            rfl
        · rw [nIlt (by omega) (by omega)] at h1 h2
          have ho : oth p fr to k = true := by
            unfold oth
            rw [show decide (fr ≤ k) = true from decide_eq_true (by omega), show decide (k ≤ to) = true from decide_eq_true (by omega), bne_iff_ne.mpr h]
            rfl
          refine bI (c := (c.1 19 0 1 >>> ((2 * nI k) &&& 31)) &&& 3 < nI give) (fun h3 => ?_) (fun h3 => ?_)
          · rw [hdg, nIlt (by omega) (by omega)] at h3
            refine ih (k + 1) _ _ _ _ _ (by omega) (nI_succ k).symm ?_ ?_ hsum h0 h4
            · simp only [cntB, ho]
              exact (nI_succ _).symm
            · simp only [cntB, ho, show decide (give ≤ dd row k) = false from decide_eq_false (by omega)]
              exact Int32.add_zero _
          · rw [hdg, nIlt (by omega) (by omega)] at h3
            refine ih (k + 1) _ _ _ _ _ (by omega) (nI_succ k).symm ?_ ?_ hsum h0 h4
            · simp only [cntB, ho]
              exact (nI_succ _).symm
            · simp only [cntB, ho, show decide (give ≤ dd row k) = true from decide_eq_true (by omega)]
              exact (nI_succ _).symm
  refine ctr_ev 60 [59] rfl rfl ?_
  refine bI (c := nI (kk + 3) = Int32.ofInt 7) (fun h => ?_) (fun h => bI (c := nI (kk + 3) = 3) (fun h2 => ?_) (fun h2 => ?_))
  · have h := e3 4 ⟨h, by decide⟩
    subst h
    refine bI (c := nI many < c.1 19 0 2) (fun h2 => ?_) (fun h2 => ?_)
    · rw [hs.2.2.1, nIlt (by omega) (by omega)] at h2
      refine And.intro rfl (And.intro rfl ?_)
      rw [bi_f]
      show ¬ decide (day ≤ many) = true
      rw [decide_eq_true_eq]
      omega
    · rw [hs.2.2.1, nIlt (by omega) (by omega)] at h2
      refine And.intro rfl (And.intro rfl ?_)
      rw [bi_t]
      show decide (day ≤ many) = true
      rw [decide_eq_true_eq]
      omega
  · have h2 := e3 0 ⟨h2, by decide⟩
    subst h2
    have hd := dd_lt row fr
    have hdg := digit hs hn hp hr (q := fr) (by omega)
    have hdg : (c.1 19 0 1 >>> ((2 * nI fr) &&& 31)) &&& 3 = nI (if fr = p ∨ n ≤ fr then 0 else dd row fr) := by
      rw [hdg]
      congr 1
      by_cases hop : fr = p
      · rw [if_pos hop, if_pos (Or.inl hop)]
      · rw [if_neg hop]
        by_cases hon : n ≤ fr
        · rw [if_pos (Or.inr hon), dd_out hr hon]
        · rw [if_neg (show ¬ (fr = p ∨ n ≤ fr) by omega)]
    have hb : (if fr = p ∨ n ≤ fr then 0 else dd row fr) < 4 := by
      split <;> omega
    refine bI (c := (c.1 19 0 1 >>> ((2 * nI fr) &&& 31)) &&& 3 < nI give) (fun h3 => ?_) (fun h3 => ?_)
    · rw [hdg, nIlt (by omega) (by omega)] at h3
      refine And.intro rfl (And.intro rfl ?_)
      rw [bi_f]
      show ¬ decide (give ≤ (if fr = p ∨ n ≤ fr then 0 else dd row fr)) = true
      rw [decide_eq_true_eq]
      omega
    · rw [hdg, nIlt (by omega) (by omega)] at h3
      refine And.intro rfl (And.intro rfl ?_)
      rw [bi_t]
      show decide (give ≤ (if fr = p ∨ n ≤ fr then 0 else dd row fr)) = true
      rw [decide_eq_true_eq]
      omega
  · exact key n 0 0 0 0 0 none (by omega) rfl rfl rfl rfl (fun z => h2 (by rw [z]; rfl)) (fun z => h (by rw [z]; rfl))
end ISO
end
section
/-! the pile of bits -/
def pv : List Bool → Nat
  | [] => 0
  | b :: t => 2 * pv t + b.toNat
theorem pv_lt : ∀ s : List Bool, pv s < 2 ^ s.length
  | [] => by decide
  | b :: t => by
    have := pv_lt t
    have := Bool.toNat_lt b
    simp only [pv, List.length_cons, Nat.pow_succ]
    omega
theorem nI_ofN {x : Int32} {n : Nat} (h : x.toBitVec.toNat = n) (hn : n < 2 ^ 32) : x = nI n := Int32.toBitVec_inj.mp (BitVec.eq_of_toNat_eq (by rw [h, pk_tn hn]))
theorem halves {a b : Nat} (h1 : a / 2 = b / 2) (h2 : a % 2 = b % 2) : a = b := by omega
theorem md2 {a b : Nat} (h : a.testBit 0 = b.testBit 0) : a % 2 = b % 2 := by
  rw [Nat.testBit_zero, Nat.testBit_zero, decide_eq_decide] at h
  omega
theorem tb0 (t : Nat) (b : Bool) : (2 * t + b.toNat).testBit 0 = b := by
  rw [Nat.testBit_zero]
  cases b <;> simp <;> omega
theorem xor1N (t : Nat) (b : Bool) : (2 * t + b.toNat) ^^^ 1 = 2 * t + (!b).toNat := by
  apply halves
  · rw [Nat.xor_div_two]
    cases b <;> simp <;> omega
  · apply md2
    rw [Nat.testBit_xor, tb0, tb0]
    cases b <;> rfl
theorem pile_not (t : Nat) (b : Bool) (h : 2 * t + b.toNat < 2 ^ 31) : nI (2 * t + b.toNat) ^^^ 1 = nI (2 * t + (!b).toNat) := by
  apply nI_ofN
  · rw [Int32.toBitVec_xor, BitVec.toNat_xor, pk_tn (by omega)]
    exact xor1N t b
  · cases b <;> simp at h ⊢ <;> omega
theorem orm2N {x : Nat} (h : x < 2 ^ 31) : x ||| 4294967294 = 4294967294 + x % 2 := by
  apply Nat.eq_of_testBit_eq
  intro i
  rw [Nat.testBit_or]
  cases i with
  | zero =>
    rw [Nat.testBit_zero, Nat.testBit_zero, Nat.testBit_zero]
    have : (4294967294 + x % 2) % 2 = x % 2 := by omega
    rw [this]
    simp
  | succ i =>
    rw [Nat.testBit_succ, Nat.testBit_succ, Nat.testBit_succ]
    have e1 : (4294967294 + x % 2) / 2 = 2 ^ 31 - 1 := by omega
    have e2 : 4294967294 / 2 = 2 ^ 31 - 1 := by decide
    rw [e1, e2, Nat.testBit_two_pow_sub_one]
    by_cases hi : i < 31
    · simp [hi]
    · have : x / 2 < 2 ^ i := Nat.lt_of_lt_of_le (show x / 2 < 2 ^ 31 by omega) (Nat.pow_le_pow_right (by decide) (by omega))
      rw [Nat.testBit_lt_two_pow this]
      rfl
theorem andHi {y : Nat} (a : Bool) (hy : y < 2 ^ 31) : y &&& (4294967294 + a.toNat) = 2 * (y / 2) + (y.testBit 0 && a).toNat := by
  have ha := Bool.toNat_lt a
  apply halves
  · rw [Nat.and_div_two]
    have e1 : (4294967294 + a.toNat) / 2 = 2 ^ 31 - 1 := by omega
    rw [e1, Nat.and_two_pow_sub_one_eq_mod, Nat.mod_eq_of_lt (by omega)]
    have := Bool.toNat_lt (y.testBit 0 && a)
    omega
  · apply md2
    rw [Nat.testBit_and, tb0, show 4294967294 + a.toNat = 2 * 2147483647 + a.toNat from rfl, tb0]
theorem pile_and (t : Nat) (a b : Bool) (h : 2 * (2 * t + b.toNat) + a.toNat < 2 ^ 31) : ((nI (2 * (2 * t + b.toNat) + a.toNat)).toUInt32 >>> (Int32.toUInt32 1 &&& Int32.toUInt32 31)).toInt32 &&& (nI (2 * (2 * t + b.toNat) + a.toNat) ||| (-2)) = nI (2 * t + (b && a).toNat) := by
  have ha := Bool.toNat_lt a
  have hb := Bool.toNat_lt b
  have hc := Bool.toNat_lt (b && a)
  rw [pk_ushrN (by omega) 1 1 (by decide)]
  apply nI_ofN
  · rw [Int32.toBitVec_and, BitVec.toNat_and, Int32.toBitVec_or, BitVec.toNat_or, pk_tn (by omega), pk_tn (by omega)]
    rw [show (2 * (2 * t + b.toNat) + a.toNat) / 2 ^ 1 = 2 * t + b.toNat by omega]
    show (2 * t + b.toNat) &&& ((2 * (2 * t + b.toNat) + a.toNat) ||| 4294967294) = _
    rw [orm2N h, show (2 * (2 * t + b.toNat) + a.toNat) % 2 = a.toNat by omega, andHi a (by omega), tb0]
    omega
  · omega
theorem or1N (y : Nat) (a : Bool) : y ||| a.toNat = 2 * (y / 2) + (y.testBit 0 || a).toNat := by
  have ha := Bool.toNat_lt a
  apply halves
  · rw [Nat.or_div_two, show a.toNat / 2 = 0 by omega, Nat.or_zero]
    have := Bool.toNat_lt (y.testBit 0 || a)
    omega
  · apply md2
    rw [Nat.testBit_or, tb0, show a.toNat = 2 * 0 + a.toNat by omega, tb0]
theorem pile_or (t : Nat) (a b : Bool) (h : 2 * (2 * t + b.toNat) + a.toNat < 2 ^ 31) : ((nI (2 * (2 * t + b.toNat) + a.toNat)).toUInt32 >>> (Int32.toUInt32 1 &&& Int32.toUInt32 31)).toInt32 ||| (nI (2 * (2 * t + b.toNat) + a.toNat) &&& 1) = nI (2 * t + (b || a).toNat) := by
  have ha := Bool.toNat_lt a
  have hb := Bool.toNat_lt b
  have hc := Bool.toNat_lt (b || a)
  rw [pk_ushrN (by omega) 1 1 (by decide), pk_andN (by omega) 1 (by decide)]
  apply nI_ofN
  · rw [Int32.toBitVec_or, BitVec.toNat_or, pk_tn (by omega), pk_tn (by omega)]
    rw [show (2 * (2 * t + b.toNat) + a.toNat) / 2 ^ 1 = 2 * t + b.toNat by omega, show (2 * (2 * t + b.toNat) + a.toNat) % 2 ^ 1 = a.toNat by omega, or1N, tb0]
    omega
  · omega
theorem pile_shl {x : Nat} (h : x < 2 ^ 30) : nI x <<< ((1 : Int32) &&& 31) = nI (2 * x) := by
  rw [pk_shlN ((1 : Int32) &&& 31) 1 (by decide) (by omega), Nat.mul_comm]
theorem pile_or1 {x : Nat} (h : x < 2 ^ 30) : nI (2 * x) ||| 1 = nI (2 * x + 1) := by
  apply nI_ofN
  · rw [Int32.toBitVec_or, BitVec.toNat_or, pk_tn (by omega)]
    show 2 * x ||| (true).toNat = _
    rw [or1N, show 2 * x / 2 = x by omega, Bool.or_true]
    rfl
  · omega
theorem pile_top (t : Nat) (b : Bool) (h : 2 * t + b.toNat < 2 ^ 31) : nI (2 * t + b.toNat) &&& 1 = 1 ↔ b = true := by
  have hb := Bool.toNat_lt b
  rw [pk_andN (by omega) 1 (by decide), show (2 * t + b.toNat) % 2 ^ 1 = b.toNat by omega]
  cases b <;> decide
/-! steps on a stack -/
abbrev eK (e : StpT) : Nat := e.1
def evO (v : StpT → Bool) (e : StpT) : List Bool → List Bool
  | [] => if e.1 < 5 then [v e] else []
  | [a] => if e.1 < 5 then v e :: [a] else if e.1 = 5 then [!a] else [a]
  | a :: b :: t => if e.1 < 5 then v e :: a :: b :: t else if e.1 = 5 then (!a) :: b :: t else if e.1 = 6 then (b && a) :: t else (b || a) :: t
def evS (v : StpT → Bool) : List StpT → List Bool → List Bool
  | [], s => s
  | e :: es, s => evS v es (evO v e s)
def dpO (e : StpT) (d : Nat) : Option Nat := if e.1 < 5 then (if d < 29 then some (d + 1) else none) else if e.1 = 5 then (if d < 1 then none else some d) else (if d < 2 then none else some (d - 1))
def dpS : List StpT → Nat → Option Nat
  | [], d => some d
  | e :: es, d => match dpO e d with
    | none => none
    | some d' => dpS es d'
theorem evO_len {v : StpT → Bool} {e : StpT} {s : List Bool} {d' : Nat} (h : dpO e s.length = some d') : (evO v e s).length = d' ∧ (s.length < 30 → d' < 30) := by
  unfold dpO at h
  unfold evO
  split at h
  · rename_i h5
    split at h
    · cases h
      rcases s with _ | ⟨a, _ | ⟨b, t⟩⟩ <;> simp only [h5, if_true] <;> simp at * <;> omega
    · exact absurd h (by simp)
  · rename_i h5
    split at h
    · rename_i h6
      split at h
      · exact absurd h (by simp)
      · cases h
        rcases s with _ | ⟨a, _ | ⟨b, t⟩⟩ <;> simp [h6] at *
    · rename_i h6
      split at h
      · exact absurd h (by simp)
      · cases h
        rcases s with _ | ⟨a, _ | ⟨b, t⟩⟩ <;> simp [h5, h6] at *
        split <;> simp <;> omega
end
section
/-! a term as the class keeps it -/
def seg (S : List StpT) (f e : Nat) : List StpT := (S.drop f).take (e - f)
def okE (e : StpT) : Prop := e.1 < 8 ∧ e.2.1 < 6 ∧ e.2.2.1 < 6 ∧ e.2.2.2.1 < 100 ∧ e.2.2.2.2.1 < 100
def okR (S : List StpT) : List (Nat × Nat × Nat) → Nat → Prop
  | [], _ => True
  | (k, o, e) :: R, f => (k < 4 ∧ o < 6 ∧ (k = 0 → o < 4)) ∧ (f ≤ e ∧ e ≤ S.length) ∧ (e = f ∨ dpS (seg S f e) 0 = some 1) ∧ okR S R e
abbrev Trm : Type := List (Nat × Nat × Nat) × List StpT
def okT (T : Trm) : Prop := T.1.length ≤ 25 ∧ T.2.length ≤ 40 ∧ (∀ e ∈ T.2, okE e) ∧ okR T.2 T.1 0
def vv (n p row day : Nat) (e : StpT) : Bool := stpV n p row day e.1 e.2.1 e.2.2.1 e.2.2.2.1 e.2.2.2.2.1
def hldB (n p row day : Nat) (S : List StpT) (f e : Nat) : Bool := (evS (vv n p row day) (seg S f e) []).head? == some true
def letR (n p row day : Nat) (S : List StpT) : List (Nat × Nat × Nat) → Nat → Nat
  | [], _ => 0
  | (k, o, e) :: R, f => if e = f ∨ hldB n p row day S f e = true then muchV n p row k o else letR n p row day S R e
def letT (n p row day : Nat) (T : Trm) : Nat := letR n p row day T.2 T.1 0
def kcd (k : Nat) : Nat := if k < 5 then k + 3 else k - 5
def cStp (c : Sd) (t s : Nat) (e : StpT) : Prop := c.2.1 15 t s = nI (kcd e.1) ∧ (e.1 < 5 → c.2.1 16 t s = nI e.2.1 ∧ c.2.1 17 t s = nI e.2.2.1 ∧ c.2.1 18 t (2 * s) = nI e.2.2.2.1 ∧ c.2.1 18 t (2 * s + 1) = nI e.2.2.2.2.1)
def cRul (c : Sd) (t r : Nat) (k : Nat × Nat × Nat) : Prop := c.2.1 12 t r = nI k.1 ∧ c.2.1 13 t r = nI k.2.1 ∧ c.2.1 14 t r = nI k.2.2
def CT (c : Sd) (t : Nat) (T : Trm) : Prop := c.1 11 t 3 = nI T.1.length ∧ c.1 11 t 8 = nI T.2.length ∧ (∀ r k, T.1[r]? = some k → cRul c t r k) ∧ ∀ s e, T.2[s]? = some e → cStp c t s e
theorem seg_nil (S : List StpT) (e : Nat) : seg S e e = [] := by
  unfold seg
  rw [Nat.sub_self, List.take_zero]
theorem seg_cons {S : List StpT} {s e : Nat} {x : StpT} (h : S[s]? = some x) (hs : s < e) : seg S s e = x :: seg S (s + 1) e := by
  unfold seg
  obtain ⟨j, hj⟩ : ∃ j, e - s = j + 1 := ⟨e - s - 1, by omega⟩
  rw [hj, show e - (s + 1) = j by omega]
  obtain ⟨h1, h2⟩ := List.getElem?_eq_some_iff.mp h
  rw [List.drop_eq_getElem_cons h1, List.take_succ_cons, h2]
section TRM
variable {n p row day t : Nat} {c m : Sd} {T : Trm}
theorem c_holds (hs : Scn c n p row day) (hn : n ≤ 6) (hp : p < n) (hr : row < 4 ^ n) (hday : day ≤ 9) (hT : CT c t T) (hok : okT T) {f e : Nat} (hfe : f ≤ e) (he : e ≤ T.2.length) (hd : dpS (seg T.2 f e) 0 = some 1) : Fn 1 42 [vR false 11 t, vI (nI f), vI (nI e), vR false 19 0] (c, m) (c, m) (some (vI (bi (hldB n p row day T.2 f e = true)))) := by
  obtain ⟨h25, h40, hE, -⟩ := hok
  have key : ∀ (j s : Nat) (x pl : Int32) (st : List Bool), s + j = e → x = nI s → pl = nI (pv st) → st.length < 30 → dpS (seg T.2 s e) st.length = some 1 → evS (vv n p row day) (seg T.2 f e) [] = evS (vv n p row day) (seg T.2 s e) st → Go 1 42 none 6 [some (vR false 11 t), some (vI (nI f)), some (vI (nI e)), some (vR false 19 0), some (vI pl), some (vI x)] [] (c, m) (fun w' r' => w' = (c, m) ∧ r' = some (vI (bi (hldB n p row day T.2 f e = true)))) := by
    intro j
    induction j with
    | zero =>
      intro s x pl st hse hx hpl h30 hdp hev
      have hse : s = e := by omega
      subst hse
      rw [seg_nil] at hdp hev
      subst hx hpl
      have h1 : st.length = 1 := Option.some.inj hdp
      obtain ⟨b, rfl⟩ : ∃ b, st = [b] := by
        rcases st with _ | ⟨b, _ | ⟨b', t'⟩⟩
        · exact absurd h1 (by decide)
        · exact ⟨b, rfl⟩
        · simp at h1
      have hb := Bool.toNat_lt b
      refine go_ev 60 [6] (bT (c := nI s ≤ nI s) (Int32.le_refl _) ?_)
      have hv : hldB n p row day T.2 f s = b := by
        unfold hldB
        rw [hev]
        cases b <;> rfl
      refine bI (c := nI (pv [b]) &&& 1 = 1) (fun h => ?_) (fun h => ?_)
      · have h := (pile_top 0 b (by omega)).mp h
        exact And.intro rfl (And.intro rfl (by rw [bi_t (hv.trans h)]))
      · have h : ¬ b = true := fun z => h ((pile_top 0 b (by omega)).mpr z)
        exact And.intro rfl (And.intro rfl (by rw [bi_f (fun z => h (hv.symm.trans z))]))
    | succ j ih =>
      intro s x pl st hse hx hpl h30 hdp hev
      subst hx hpl
      have hsl : s < T.2.length := by omega
      obtain ⟨a, ha⟩ : ∃ a, T.2[s]? = some a := ⟨_, List.getElem?_eq_getElem hsl⟩
      have hcs := hT.2.2.2 s a ha
      have hoe := hE a (List.mem_of_getElem? ha)
      rw [seg_cons ha (by omega)] at hdp hev
      have hdp : (match dpO a st.length with
        | none => none
        | some d' => dpS (seg T.2 (s + 1) e) d') = some 1 := hdp
      obtain ⟨d', hd', hdp2⟩ : ∃ d', dpO a st.length = some d' ∧ dpS (seg T.2 (s + 1) e) d' = some 1 := by
        cases hq : dpO a st.length with
        | none => rw [hq] at hdp; exact absurd hdp (by simp)
        | some d' => rw [hq] at hdp; exact ⟨d', rfl, hdp⟩
      obtain ⟨hl, hl30⟩ := evO_len (v := vv n p row day) hd'
      have hgo := ih (s + 1) (nI s + 1) (nI (pv (evO (vv n p row day) a st))) (evO (vv n p row day) a st) (by omega) (nI_succ s).symm rfl (by rw [hl]; exact hl30 h30) (by rw [hl]; exact hdp2) hev
      have hcl : (nI s).toNatClampNeg = s := pk_cl s
      have hk : c.2.1 15 t (nI s).toNatClampNeg = nI (kcd a.1) := by rw [hcl]; exact hcs.1
      have hkl : kcd a.1 < 2 ^ 31 := by
        have := hoe.1
        unfold kcd
        split <;> omega
      have hplt := pv_lt st
      have h230 : pv st < 2 ^ 30 := Nat.lt_of_lt_of_le hplt (Nat.pow_le_pow_right (by decide) (by omega))
      refine go_ev 60 [6] (bF (c := nI e ≤ nI s) (by rw [nIle (by omega) (by omega)]; omega) ?_)
      refine dI (pk_in s 40 (by omega)) ?_
      refine bI (c := c.2.1 15 t (nI s).toNatClampNeg = Int32.ofInt 0) (fun h => ?_) (fun h => bI (c := c.2.1 15 t (nI s).toNatClampNeg = Int32.ofInt 1) (fun h1 => ?_) (fun h1 => bI (c := c.2.1 15 t (nI s).toNatClampNeg = Int32.ofInt 2) (fun h2 => ?_) (fun h2 => ?_)))
      · rw [hk] at h
        have h : kcd a.1 = 0 := (nIeq hkl (by decide)).mp h
        have hk5 : a.1 = 5 := by
          unfold kcd at h
          split at h <;> have := hoe.1 <;> omega
        have hst : st ≠ [] := by
          rintro rfl
          unfold dpO at hd'
          rw [hk5] at hd'
          exact absurd hd' (by simp)
        obtain ⟨b, t', rfl⟩ := List.exists_cons_of_ne_nil hst
        have e1 : pv (evO (vv n p row day) a (b :: t')) = 2 * pv t' + (!b).toNat := by
          cases t' <;> simp [evO, hk5, pv]
        rw [e1, ← pile_not (pv t') b (by simp only [pv] at h230; omega)] at hgo
        exact hgo
      · rw [hk] at h1
        have h1 : kcd a.1 = 1 := (nIeq hkl (by decide)).mp h1
        have hk6 : a.1 = 6 := by
          unfold kcd at h1
          split at h1 <;> have := hoe.1 <;> omega
        obtain ⟨x, y, t', rfl⟩ : ∃ x y t', st = x :: y :: t' := by
          rcases st with _ | ⟨x, _ | ⟨y, t'⟩⟩
          · unfold dpO at hd'
            rw [hk6] at hd'
            exact absurd hd' (by simp)
          · unfold dpO at hd'
            rw [hk6] at hd'
            exact absurd hd' (by simp)
          · exact ⟨x, y, t', rfl⟩
        have e1 : pv (evO (vv n p row day) a (x :: y :: t')) = 2 * pv t' + (y && x).toNat := by
          simp [evO, hk6, pv]
        rw [e1, ← pile_and (pv t') x y (by simp only [pv] at h230; omega)] at hgo
        exact hgo
      · rw [hk] at h2
        have h2 : kcd a.1 = 2 := (nIeq hkl (by decide)).mp h2
        have hk7 : a.1 = 7 := by
          unfold kcd at h2
          split at h2 <;> have := hoe.1 <;> omega
        obtain ⟨x, y, t', rfl⟩ : ∃ x y t', st = x :: y :: t' := by
          rcases st with _ | ⟨x, _ | ⟨y, t'⟩⟩
          · unfold dpO at hd'
            rw [hk7] at hd'
            exact absurd hd' (by simp)
          · unfold dpO at hd'
            rw [hk7] at hd'
            exact absurd hd' (by simp)
          · exact ⟨x, y, t', rfl⟩
        have e1 : pv (evO (vv n p row day) a (x :: y :: t')) = 2 * pv t' + (y || x).toNat := by
          simp [evO, hk7, pv]
        rw [e1, ← pile_or (pv t') x y (by simp only [pv] at h230; omega)] at hgo
        exact hgo
      · have hlt : a.1 < 5 := by
          have := hoe.1
          rcases Nat.lt_or_ge a.1 5 with z | z
          · exact z
          · exfalso
            rcases (show a.1 = 5 ∨ a.1 = 6 ∨ a.1 = 7 by omega) with q | q | q <;> rw [hk, q] at h h1 h2
            · exact h rfl
            · exact h1 rfl
            · exact h2 rfl
        obtain ⟨hc1, hc2⟩ := hcs
        obtain ⟨q1, q2, q3, q4⟩ := hc2 hlt
        have hkc : kcd a.1 = a.1 + 3 := by
          unfold kcd
          rw [if_pos hlt]
        have hc20 : (2 * nI s).toNatClampNeg = 2 * s := pk_cl (2 * s) (by rw [show (2 : Int32) = nI 2 from rfl, pk_mul])
        have hc21 : (2 * nI s + 1).toNatClampNeg = 2 * s + 1 := pk_cl (2 * s + 1) (by rw [show (2 : Int32) = nI 2 from rfl, pk_mul, nI_succ])
        have hI : Fn 0 34 [vR false 19 0, vI (c.2.1 15 t (nI s).toNatClampNeg), vI (c.2.1 16 t (nI s).toNatClampNeg), vI (c.2.1 17 t (nI s).toNatClampNeg), vI (c.2.1 18 t (2 * nI s).toNatClampNeg), vI (c.2.1 18 t (2 * nI s + 1).toNatClampNeg)] (c, m) (c, m) (some (vI (bi (vv n p row day a = true)))) := by
          rw [hcl, hc20, hc21, hc1, q1, q2, q3, q4, hkc]
          exact c_isSo hs hn hp hr hday hlt hoe.2.1 hoe.2.2.1 hoe.2.2.2.1 hoe.2.2.2.2
        have e1 : evO (vv n p row day) a st = vv n p row day a :: st := by
          rcases st with _ | ⟨x, _ | ⟨y, t'⟩⟩ <;> simp [evO, hlt]
        rw [e1] at hgo
        refine dI (pk_in s 40 (by omega)) (dI (pk_in s 40 (by omega)) (dI (pk_in s 40 (by omega)) (dI (pk_in (2 * s) 80 (by omega) (by rw [show (2 : Int32) = nI 2 from rfl, pk_mul])) (dI (pk_in (2 * s + 1) 80 (by omega) (by rw [show (2 : Int32) = nI 2 from rfl, pk_mul, nI_succ])) ?_))))
        refine iF hI (by decide) (bI (c := bi (vv n p row day a = true) = 0) (fun h => ?_) (fun h => ?_))
        · rw [bi_0] at h
          have e2 : nI (pv (vv n p row day a :: st)) = nI (pv st) <<< ((1 : Int32) &&& 31) := by
            rw [pile_shl h230, Bool.eq_false_iff.mpr h]
            rfl
          rw [e2] at hgo
          exact hgo
        · rw [bi_0] at h
          have e2 : nI (pv (vv n p row day a :: st)) = nI (pv st) <<< ((1 : Int32) &&& 31) ||| 1 := by
            rw [pile_shl h230, pile_or1 h230, Classical.not_not.mp h]
            rfl
          rw [e2] at hgo
          exact hgo
  refine ctr_ev 60 [6] rfl rfl ?_
  exact key (e - f) f (nI f) 0 [] (by omega) rfl rfl (by decide) hd rfl
end TRM
end
section
/-! what a term lets: the class -/
theorem muchV_lt {n p row k o : Nat} (hk : k < 4) (h : k = 0 → o < 4) : muchV n p row k o < 4 := by
  unfold muchV
  have h1 := dd_lt row o
  have h2 := lstK_le p row n
  have h3 := mstK_le p row n
  split
  · exact h (by assumption)
  · split
    · split <;> omega
    · split
      · split <;> omega
      · omega
theorem letR_lt {n p row day : Nat} {S : List StpT} : ∀ (R : List (Nat × Nat × Nat)) (f : Nat), okR S R f → letR n p row day S R f < 4
  | [], _, _ => by
    show 0 < 4
    decide
  | (k, o, e) :: R, f, h => by
    unfold letR
    split
    · exact muchV_lt h.1.1 h.1.2.2
    · exact letR_lt R e h.2.2.2
theorem letT_lt {n p row day : Nat} {T : Trm} (h : okT T) : letT n p row day T < 4 := letR_lt _ _ h.2.2.2
section ALW
variable {n p row day t : Nat} {c m : Sd} {T : Trm}
theorem c_tAllowed (hs : Scn c n p row day) (hn : n ≤ 6) (hp : p < n) (hr : row < 4 ^ n) (hday : day ≤ 9) (hT : CT c t T) (hok : okT T) : Fn 2 40 [vR false 11 t, vR false 19 0] (c, m) (c, m) (some (vI (nI (letT n p row day T)))) := by
  have h25 := hok.1
  have h40 := hok.2.1
  have key : ∀ (j r f : Nat) (x fx : Int32), r + j = T.1.length → x = nI r → fx = nI f → okR T.2 (T.1.drop r) f → f ≤ T.2.length → letT n p row day T = letR n p row day T.2 (T.1.drop r) f → Go 2 40 none 4 [some (vR false 11 t), some (vR false 19 0), some (vI fx), some (vI x)] [] (c, m) (fun w' r' => w' = (c, m) ∧ r' = some (vI (nI (letT n p row day T)))) := by
    intro j
    induction j with
    | zero =>
      intro r f x fx hj hx hf hR hfl hl
      refine go_ev 60 [4] (bT (c := c.1 11 t 3 ≤ x) (by rw [hT.1, hx, nIle (by omega) (by omega)]; omega) (And.intro rfl ?_))
      rw [hl, List.drop_eq_nil_of_le (by omega)]
      rfl
    | succ j ih =>
      intro r f x fx hj hx hf hR hfl hl
      subst hx hf
      have hrl : r < T.1.length := by omega
      obtain ⟨⟨k, o, e⟩, ha⟩ : ∃ a, T.1[r]? = some a := ⟨_, List.getElem?_eq_getElem hrl⟩
      have hdr : T.1.drop r = (k, o, e) :: T.1.drop (r + 1) := by
        obtain ⟨h1, h2⟩ := List.getElem?_eq_some_iff.mp ha
        rw [List.drop_eq_getElem_cons h1, h2]
      rw [hdr] at hR hl
      obtain ⟨⟨hk4, ho6, -⟩, ⟨hfe, hes⟩, hdp, hR'⟩ := hR
      obtain ⟨q1, q2, q3⟩ := hT.2.2.1 r _ ha
      have hcl : (nI r).toNatClampNeg = r := pk_cl r
      have q1 : c.2.1 12 t (nI r).toNatClampNeg = nI k := by rw [hcl]; exact q1
      have q2 : c.2.1 13 t (nI r).toNatClampNeg = nI o := by rw [hcl]; exact q2
      have q3 : c.2.1 14 t (nI r).toNatClampNeg = nI e := by rw [hcl]; exact q3
      have hin : vp_in (nI r) 25 := pk_in r 25 (by omega)
      have hM : Fn 1 41 [vI (c.2.1 12 t (nI r).toNatClampNeg), vI (c.2.1 13 t (nI r).toNatClampNeg), vR false 19 0] (c, m) (c, m) (some (vI (nI (muchV n p row k o)))) := by
        rw [q1, q2]
        exact c_much hs hn hp hr hk4 ho6
      refine go_ev 60 [4] (bF (c := c.1 11 t 3 ≤ nI r) (by rw [hT.1, nIle (by omega) (by omega)]; omega) ?_)
      refine dI hin ?_
      refine bI (c := c.2.1 14 t (nI r).toNatClampNeg = nI f) (fun h => ?_) (fun h => ?_)
      · rw [q3, nIeq (by omega) (by omega)] at h
        refine dI hin (dI hin (iF hM (by decide) (And.intro rfl ?_)))
        rw [hl]
        unfold letR
        rw [if_pos (Or.inl h)]
      · rw [q3, nIeq (by omega) (by omega)] at h
        have hdp : dpS (seg T.2 f e) 0 = some 1 := hdp.resolve_left h
        have hH : Fn 1 42 [vR false 11 t, vI (nI f), vI (c.2.1 14 t (nI r).toNatClampNeg), vR false 19 0] (c, m) (c, m) (some (vI (bi (hldB n p row day T.2 f e = true)))) := by
          rw [q3]
          exact c_holds hs hn hp hr hday hT hok hfe hes hdp
        refine dI hin (iF hH (by decide) (bI (fun h2 => ?_) (fun h2 => ?_)))
        · rw [bi_0] at h2
          refine dI hin ?_
          refine ih (r + 1) e _ _ (by omega) (nI_succ r).symm q3 hR' hes ?_
          rw [hl]
          conv => lhs; unfold letR
          rw [if_neg (fun z => z.elim h h2)]
        · rw [bi_0, Classical.not_not] at h2
          refine dI hin (dI hin (iF hM (by decide) (And.intro rfl ?_)))
          rw [hl]
          unfold letR
          rw [if_pos (Or.inr h2)]
  refine ctr_ev 60 [4] rfl rfl ?_
  exact key T.1.length 0 0 0 0 (by omega) rfl rfl hok.2.2.2 (Nat.zero_le _) rfl
/-- what was looked at last -/
def lkd (c : Sd) (n p row day : Nat) : Sd := (up3 (up3 (up3 (up3 c.1 19 0 0 (nI p)) 19 0 1 (nI (wdd row p 0))) 19 0 2 (nI day)) 19 0 3 (nI n), c.2.1, c.2.2)
theorem lkd_scn (c : Sd) (n p row day : Nat) : Scn (lkd c n p row day) n p row day := ⟨rfl, rfl, rfl, rfl⟩
theorem lkd_CT (h : CT c t T) : CT (lkd c n p row day) t T := h
theorem c_pAllowed (hn : n ≤ 6) (hp : p < n) (hr : row < 4 ^ n) (hday : day ≤ 9) (hT : CT c (c.2.2 9 p) T) (hok : okT T) (hnum : c.1 9 p 0 = nI p) : Fn 3 8 [vR false 9 p, vI (nI row), vI (nI day), vI (nI n)] (c, m) (lkd c n p row day, m) (some (vI (nI (letT n p row day T)))) := by
  have h6 := pow4_le hn
  have hL : Fn 1 31 [vR false 19 0, vI (c.1 9 p 0), vI (nI row), vI (nI day), vI (nI n)] (c, m) (lkd c n p row day, m) none := by
    rw [hnum]
    exact c_look (by omega) (by omega) _ _
  refine ctr_ev 40 [] rfl rfl (iF hL (by decide) ?_)
  exact iF (c_tAllowed (lkd_scn c n p row day) hn hp hr hday (lkd_CT hT) hok) (by decide) (And.intro rfl rfl)
end ALW
end
section
/-! what a person keeps: four bits a row -/
def nb (z : Int32) (j : Nat) : Nat := z.toBitVec.toNat / 16 ^ j % 16
theorem p16 (j : Nat) : 16 ^ j = 2 ^ (4 * j) := by rw [Nat.pow_mul]
theorem nb_bit (z : Int32) (j i : Nat) : (nb z j).testBit i = (decide (i < 4) && z.toBitVec.toNat.testBit (4 * j + i)) := by
  unfold nb
  rw [show (16 : Nat) = 2 ^ 4 from rfl, ← Nat.pow_mul, Nat.testBit_mod_two_pow, Nat.testBit_div_two_pow, Nat.add_comm i]
theorem nb_get {z : Int32} {j : Nat} (hj : j < 8) : (z >>> (nI (4 * j) &&& 31)) &&& 15 = nI (nb z j) := by
  rw [pk_and _ 4 (by decide)]
  congr 1
  apply Nat.eq_of_testBit_eq
  intro i
  rw [nb_bit, Nat.testBit_mod_two_pow]
  by_cases hi : i < 4
  · simp only [hi, decide_true, Bool.true_and]
    have h : (z >>> (nI (4 * j) &&& 31)).toBitVec = z.toBitVec.sshiftRight (4 * j) := by
      rw [Int32.toBitVec_shiftRight, BitVec.sshiftRight_eq', sh_l _ (by omega)]
    rw [h, BitVec.testBit_toNat, BitVec.testBit_toNat, BitVec.getLsbD_sshiftRight]
    simp [show i < 32 by omega, show 4 * j + i < 32 by omega]
  · simp [hi]
theorem nb_put {z : Int32} {j v : Nat} (hj : j < 8) (hv : v < 16) (h0 : nb z j = 0) (j' : Nat) : nb (z ||| (nI v <<< (nI (4 * j) &&& 31))) j' = if j' = j then v else nb z j' := by
  have hlt : v * 2 ^ (4 * j) < 2 ^ 32 := by
    have : 2 ^ (4 * j) ≤ 2 ^ 28 := Nat.pow_le_pow_right (by decide) (by omega)
    have h2 : v * 2 ^ (4 * j) ≤ 15 * 2 ^ 28 := Nat.mul_le_mul (by omega) this
    omega
  rw [pk_shlN _ (4 * j) (sh_l _ (by omega)) hlt]
  apply Nat.eq_of_testBit_eq
  intro i
  rw [nb_bit, Int32.toBitVec_or, BitVec.toNat_or, Nat.testBit_or, pk_tn hlt, Nat.testBit_mul_two_pow]
  have hz : ∀ i, i < 4 → z.toBitVec.toNat.testBit (4 * j + i) = false := fun i hi => by
    have := nb_bit z j i
    rw [h0, Nat.zero_testBit, show decide (i < 4) = true from decide_eq_true hi, Bool.true_and] at this
    exact this.symm
  have hvb : ∀ i, 4 ≤ i → v.testBit i = false := fun i hi => Nat.testBit_lt_two_pow (Nat.lt_of_lt_of_le hv (Nat.pow_le_pow_right (n := 2) (by decide) hi))
  by_cases hi : i < 4
  · by_cases hjj : j' = j
    · subst hjj
      rw [if_pos rfl, hz i hi]
      simp [hi]
    · rw [if_neg hjj, nb_bit]
      rcases Nat.lt_or_ge j' j with h | h
      · simp [hi, show ¬ 4 * j ≤ 4 * j' + i by omega]
      · rw [hvb (4 * j' + i - 4 * j) (by omega)]
        simp
  · by_cases hjj : j' = j
    · rw [if_pos hjj, hvb i (by omega)]
      simp [hi]
    · rw [if_neg hjj, nb_bit]
      simp [hi]
/-- a row without the own deed -/
def kyR (row p : Nat) : Nat := row % 4 ^ p + row / 4 ^ (p + 1) * 4 ^ p
theorem kyR_lt {n row p : Nat} (hn : n ≤ 6) (hp : p < n) (hr : row < 4 ^ n) : kyR row p < 1024 := by
  unfold kyR
  have h1 := Nat.mod_lt row (pow4_pos p)
  have h2 : row / 4 ^ (p + 1) < 4 ^ (5 - p) := by
    rw [Nat.div_lt_iff_lt_mul (pow4_pos _), ← Nat.pow_add, show 5 - p + (p + 1) = 6 by omega]
    exact Nat.lt_of_lt_of_le hr (Nat.pow_le_pow_right (by decide) hn)
  have h3 : (row / 4 ^ (p + 1) + 1) * 4 ^ p ≤ 4 ^ (5 - p) * 4 ^ p := Nat.mul_le_mul_right _ h2
  rw [← Nat.pow_add, show 5 - p + p = 5 by omega, Nat.add_mul] at h3
  omega
theorem kyR_same {row row' p : Nat} (h : kyR row p = kyR row' p) : row' = wdd row p (dd row' p) := by
  obtain ⟨h1, h2⟩ := wdd_parts row p (dd row' p)
  obtain ⟨h3, -⟩ := wdd_parts row' p 0
  have hm := Nat.mod_lt row (pow4_pos p)
  have hm' := Nat.mod_lt row' (pow4_pos p)
  unfold kyR at h
  rw [Nat.pow_succ, ← Nat.div_div_eq_div_mul, ← Nat.div_div_eq_div_mul] at h
  have a1 : (row % 4 ^ p + row / 4 ^ p / 4 * 4 ^ p) % 4 ^ p = row % 4 ^ p := by rw [Nat.add_mul_mod_self_right, Nat.mod_mod]
  have a2 : (row' % 4 ^ p + row' / 4 ^ p / 4 * 4 ^ p) % 4 ^ p = row' % 4 ^ p := by rw [Nat.add_mul_mod_self_right, Nat.mod_mod]
  have b1 : (row % 4 ^ p + row / 4 ^ p / 4 * 4 ^ p) / 4 ^ p = row / 4 ^ p / 4 := by rw [Nat.add_mul_div_right _ _ (pow4_pos p), Nat.div_eq_of_lt hm, Nat.zero_add]
  have b2 : (row' % 4 ^ p + row' / 4 ^ p / 4 * 4 ^ p) / 4 ^ p = row' / 4 ^ p / 4 := by rw [Nat.add_mul_div_right _ _ (pow4_pos p), Nat.div_eq_of_lt hm', Nat.zero_add]
  rw [h] at a1 b1
  rw [h2, ← a1.symm.trans a2 |>.symm, ← b1.symm.trans b2 |>.symm]
  exact h3
def kyB (row p : Nat) : Bool := decide ((nI row &&& (((1 : Int32) <<< ((2 * nI p) &&& 31)) - 1)) ||| ((nI row >>> ((2 * nI p + 2) &&& 31)) <<< ((2 * nI p) &&& 31)) = nI (kyR row p))
set_option maxRecDepth 100000 in
theorem kyB_all : (List.range 64).all (fun a => (List.range 64).all (fun b => (List.range 6).all (fun p => kyB (64 * a + b) p))) = true := by decide +kernel
theorem nI_ky {row p : Nat} (hr : row < 4096) (hp : p < 6) : (nI row &&& (((1 : Int32) <<< ((2 * nI p) &&& 31)) - 1)) ||| ((nI row >>> ((2 * nI p + 2) &&& 31)) <<< ((2 * nI p) &&& 31)) = nI (kyR row p) := by
  have h1 := List.all_eq_true.mp kyB_all (row / 64) (List.mem_range.mpr (by omega))
  have h2 := List.all_eq_true.mp h1 (row % 64) (List.mem_range.mpr (by omega))
  have h3 := List.all_eq_true.mp h2 p (List.mem_range.mpr hp)
  rw [show 64 * (row / 64) + row % 64 = row by omega] at h3
  simpa [kyB] using h3
end
section
/-! nobody looks at the own deed -/
section OWN
variable {n p row d : Nat}
theorem oth_ne {fr to q : Nat} (h : oth p fr to q = true) : q ≠ p := by
  unfold oth at h
  rw [Bool.and_eq_true] at h
  exact bne_iff_ne.mp h.1
theorem dd_own (hd : d < 4) {q : Nat} (h : q ≠ p) : dd (wdd row p d) q = dd row q := by
  rw [dd_wdd hd, if_neg h]
theorem sumX_own (hd : d < 4) : ∀ k, sumX p (wdd row p d) k = sumX p row k
  | 0 => rfl
  | k + 1 => by
    simp only [sumX, sumX_own hd k]
    by_cases h : k = p
    · rw [if_pos h, if_pos h]
    · rw [if_neg h, if_neg h, dd_own hd h]
theorem lstK_own (hd : d < 4) : ∀ k, lstK p (wdd row p d) k = lstK p row k
  | 0 => rfl
  | k + 1 => by
    simp only [lstK, lstK_own hd k]
    by_cases h : k = p
    · rw [if_pos h, if_pos h]
    · rw [if_neg h, if_neg h, dd_own hd h]
theorem mstK_own (hd : d < 4) : ∀ k, mstK p (wdd row p d) k = mstK p row k
  | 0 => rfl
  | k + 1 => by
    simp only [mstK, mstK_own hd k]
    by_cases h : k = p
    · rw [if_pos h, if_pos h]
    · rw [if_neg h, if_neg h, dd_own hd h]
theorem oth_own (hd : d < 4) (fr to give : Nat) : (fun q => oth p fr to q && decide (give ≤ dd (wdd row p d) q)) = fun q => oth p fr to q && decide (give ≤ dd row q) := by
  funext q
  cases h : oth p fr to q with
  | false => rfl
  | true => rw [dd_own hd (oth_ne h)]
theorem stpV_own (hd : d < 4) (day k fr to many give : Nat) : stpV n p (wdd row p d) day k fr to many give = stpV n p row day k fr to many give := by
  unfold stpV
  rw [sumX_own hd, oth_own hd]
  by_cases h : fr = p
  · rw [if_pos (Or.inl h), if_pos (Or.inl h)]
  · rw [dd_own hd h]
theorem muchV_own (hd : d < 4) (k o : Nat) : muchV n p (wdd row p d) k o = muchV n p row k o := by
  unfold muchV
  rw [lstK_own hd, mstK_own hd]
  by_cases h : o = p
  · rw [if_pos (Or.inl h), if_pos (Or.inl h)]
  · rw [dd_own hd h]
theorem vv_own (hd : d < 4) (day : Nat) : vv n p (wdd row p d) day = vv n p row day := by
  funext e
  exact stpV_own hd _ _ _ _ _ _
theorem letR_own (hd : d < 4) (day : Nat) (S : List StpT) : ∀ (R : List (Nat × Nat × Nat)) (f : Nat), letR n p (wdd row p d) day S R f = letR n p row day S R f
  | [], _ => rfl
  | (k, o, e) :: R, f => by
    unfold letR hldB
    rw [muchV_own hd, vv_own hd, letR_own hd day S R e]
theorem letT_own (hd : d < 4) (day : Nat) (T : Trm) : letT n p (wdd row p d) day T = letT n p row day T := letR_own hd _ _ _ _
end OWN
/-! Arrays.fill -/
theorem upA_s (g : Nat → Nat → Nat → Int32) (k i j : Nat) (v : Int32) : upA g k i j v k i = upd (g k i) j v := by
  unfold upA
  rw [if_pos rfl, if_pos rfl]
theorem upA_n (g : Nat → Nat → Nat → Int32) {k i j : Nat} (v : Int32) {k' i' : Nat} (h : ¬ (k' = k ∧ i' = i)) : upA g k i j v k' i' = g k' i' := by
  unfold upA
  by_cases h1 : k' = k
  · rw [if_pos h1, if_neg (fun z => h ⟨h1, z⟩)]
  · rw [if_neg h1]
theorem c_fill (c m : Sd) (p : Nat) : Ctr 0 166 [vR false 10 p, vI 0] (c, m) (fun w' r' => ∃ a, w' = ((c.1, a, c.2.2), m) ∧ (∀ k i, ¬ (k = 10 ∧ i = p) → a k i = c.2.1 k i) ∧ (∀ j, j < 128 → a 10 p j = 0) ∧ r' = none) := by
  have key : ∀ (j k : Nat) (x : Int32) (a : Nat → Nat → Nat → Int32), k + j = 128 → x = nI k → (∀ k i, ¬ (k = 10 ∧ i = p) → a k i = c.2.1 k i) → (∀ j, j < k → a 10 p j = 0) → Go 0 166 none 5 [some (vR false 10 p), some (vI 0), some (vI x), some (vI (nI 128))] [] ((c.1, a, c.2.2), m) (fun w' r' => ∃ a, w' = ((c.1, a, c.2.2), m) ∧ (∀ k i, ¬ (k = 10 ∧ i = p) → a k i = c.2.1 k i) ∧ (∀ j, j < 128 → a 10 p j = 0) ∧ r' = none) := by
    intro j
    induction j with
    | zero =>
      intro k x a hk hx h1 h2
      refine go_ev 30 [5] (bT (c := nI 128 ≤ x) (by rw [hx, nIle (by omega) (by omega)]; omega) ?_)
      exact Exists.intro a (And.intro rfl (And.intro h1 (And.intro (fun j hj => h2 j (by omega)) rfl)))
    | succ j ih =>
      intro k x a hk hx h1 h2
      subst hx
      have hcl : (nI k).toNatClampNeg = k := pk_cl k
      refine go_ev 30 [5] (bF (c := nI 128 ≤ nI k) (by rw [nIle (by omega) (by omega)]; omega) ?_)
      refine dI (pk_in k 128 (by omega)) ?_
      refine ih (k + 1) _ (upA a 10 p (nI k).toNatClampNeg 0) (by omega) (nI_succ k).symm (fun k' i' h => by rw [upA_n _ _ h, h1 k' i' h]) (fun j' hj' => ?_)
      rw [upA_s, hcl]
      by_cases hjk : j' = k
      · rw [hjk, pk_us]
      · rw [pk_un hjk]
        exact h2 j' (by omega)
  refine ctr_ev 30 [5] rfl rfl ?_
  exact key 128 0 0 c.2.1 (by omega) rfl (fun _ _ _ => rfl) (fun j hj => absurd hj (by omega))
end
section
/-! a person of the class, with what it keeps -/
def KP (n : Nat) (T : Trm) (c : Sd) (p : Nat) : Prop := c.1 9 p 6 = 0 ∨ ∃ d, (1 ≤ d ∧ d ≤ 9) ∧ c.1 9 p 6 = nI d ∧ ∀ row, row < 4 ^ n → nb (c.2.1 10 p (kyR row p / 8)) (kyR row p % 8) = 0 ∨ nb (c.2.1 10 p (kyR row p / 8)) (kyR row p % 8) = letT n p row d T + 1
def CV (n : Nat) (Ts : Nat → Trm) (c : Sd) : Prop := c.1 7 0 1 = nI n ∧ ∀ p, p < 6 → c.1 9 p 0 = nI p ∧ CT c (c.2.2 9 p) (Ts p) ∧ KP n (Ts p) c p
def Sam (c c' : Sd) : Prop := (∀ k i f, k ≠ 19 → (k = 9 → f ≠ 6) → c'.1 k i f = c.1 k i f) ∧ (∀ k i, k ≠ 10 → c'.2.1 k i = c.2.1 k i) ∧ c'.2.2 = c.2.2
theorem Sam_rfl (c : Sd) : Sam c c := ⟨fun _ _ _ _ _ => rfl, fun _ _ _ => rfl, rfl⟩
theorem Sam_tr {a b c : Sd} (h : Sam a b) (h2 : Sam b c) : Sam a c := ⟨fun k i f h1 h3 => (h2.1 k i f h1 h3).trans (h.1 k i f h1 h3), fun k i h1 => (h2.2.1 k i h1).trans (h.2.1 k i h1), h2.2.2.trans h.2.2⟩
theorem CT_sam {c c' : Sd} {t : Nat} {T : Trm} (h : Sam c c') (hT : CT c t T) : CT c' t T := by
  obtain ⟨h1, h2, h3⟩ := h
  refine ⟨?_, ?_, fun r k hr => ?_, fun s e he => ?_⟩
  · rw [h1 11 t 3 (by decide) (by decide)]
    exact hT.1
  · rw [h1 11 t 8 (by decide) (by decide)]
    exact hT.2.1
  · have := hT.2.2.1 r k hr
    unfold cRul at this ⊢
    rw [h2 12 t (by decide), h2 13 t (by decide), h2 14 t (by decide)]
    exact this
  · have := hT.2.2.2 s e he
    unfold cStp at this ⊢
    rw [h2 15 t (by decide), h2 16 t (by decide), h2 17 t (by decide), h2 18 t (by decide)]
    exact this
theorem CV_sam {n : Nat} {Ts : Nat → Trm} {c c' : Sd} (h : Sam c c') (hV : CV n Ts c) (hK : ∀ p, p < 6 → KP n (Ts p) c' p) : CV n Ts c' := by
  refine ⟨(h.1 7 0 1 (by decide) (by decide)).trans hV.1, fun p hp => ⟨(h.1 9 p 0 (by decide) (by decide)).trans (hV.2 p hp).1, ?_, hK p hp⟩⟩
  rw [h.2.2]
  exact CT_sam h (hV.2 p hp).2.1
theorem up3_n (g : Nat → Nat → Nat → Int32) {k i f : Nat} (v : Int32) {k' i' f' : Nat} (h : ¬ (k' = k ∧ i' = i ∧ f' = f)) : up3 g k i f v k' i' f' = g k' i' f' := by
  unfold up3
  by_cases h1 : k' = k
  · rw [if_pos h1]
    by_cases h2 : i' = i
    · rw [if_pos h2, if_neg (fun z => h ⟨h1, h2, z⟩)]
    · rw [if_neg h2]
  · rw [if_neg h1]
theorem up3_s (g : Nat → Nat → Nat → Int32) (k i f : Nat) (v : Int32) : up3 g k i f v k i f = v := by
  unfold up3
  rw [if_pos rfl, if_pos rfl, if_pos rfl]
theorem lkd_sam (c : Sd) (n p row day : Nat) : Sam c (lkd c n p row day) := by
  refine ⟨fun k i f h1 h2 => ?_, fun _ _ _ => rfl, rfl⟩
  unfold lkd
  show up3 (up3 (up3 (up3 c.1 19 0 0 _) 19 0 1 _) 19 0 2 _) 19 0 3 _ k i f = _
  rw [up3_n _ _ (fun z => h1 z.1), up3_n _ _ (fun z => h1 z.1), up3_n _ _ (fun z => h1 z.1), up3_n _ _ (fun z => h1 z.1)]
theorem Go_mono {d y pc : Nat} {scr : Option (Nat × (Nat → Int32))} {ls : Ls} {st : List PV} {w : Wd} {Q Q' : Wd → Option PV → Prop} (h : Go d y scr pc ls st w Q) (hq : ∀ w' r, Q w' r → Q' w' r) : Go d y scr pc ls st w Q' := by
  intro p l e R s m args below meth c cells slots Qf D cI cZ cQ sa sv ad ks A h1 h2 h3 h4 h5
  exact h p l e R s m args below meth c cells slots Qf D cI cZ cQ sa sv ad ks A h1 h2 h3 h4 (fun pc' w' r H locs ls' a1 a2 a3 a4 => h5 pc' w' r H locs ls' a1 a2 a3 (hq _ _ a4))
def QO (n : Nat) (Ts : Nat → Trm) (c m : Sd) (r : Int32) : Wd → Option PV → Prop := fun w' r' => ∃ c', w' = (c', m) ∧ (CV n Ts c' ∧ Sam c c') ∧ r' = some (vI r)
theorem qoi {n : Nat} {Ts : Nat → Trm} {c m c' : Sd} {r r' : Int32} (h1 : CV n Ts c' ∧ Sam c c') (h2 : r' = r) : QO n Ts c m r (c', m) (some (vI r')) := ⟨c', rfl, h1, by rw [h2]⟩
section OFT
variable {n : Nat} {Ts : Nat → Trm} {c m : Sd} {p row day : Nat}
theorem ky_places {x : Int32} {k : Nat} (hx : x = nI k) (hk : k < 1024) : (x >>> ((3 : Int32) &&& 31)) &&& 127 = nI (k / 8) ∧ 4 * (x &&& 7) = nI (4 * (k % 8)) := by
  subst hx
  constructor
  · rw [pk_shrN (by omega) _ 3 (by decide), pk_andN (by omega) 7 (by decide), Nat.mod_eq_of_lt (by omega)]
  · rw [pk_andN (by omega) 3 (by decide), show (4 : Int32) = nI 4 from rfl, pk_mul]
theorem c_oftenRest (hn : n ≤ 6) (hp : p < n) (hr : row < 4 ^ n) (hd1 : 1 ≤ day) (hday : day ≤ 9) (hV : CV n Ts c) (hok : okT (Ts p)) (hkd : c.1 9 p 6 = nI day) (hv : ∀ row, row < 4 ^ n → nb (c.2.1 10 p (kyR row p / 8)) (kyR row p % 8) = 0 ∨ nb (c.2.1 10 p (kyR row p / 8)) (kyR row p % 8) = letT n p row day (Ts p) + 1) : Go 3 9 none 21 [some (vR false 9 p), some (vI (nI row)), some (vI (nI day)), some (vI (nI n)), none, none, none, none, none] [] (c, m) (QO n Ts c m (nI (letT n p row day (Ts p)))) := by
  have h6 := pow4_le hn
  obtain ⟨hnum, hT, -⟩ := hV.2 p (by omega)
  have hlt := letT_lt (n := n) (p := p) (row := row) (day := day) hok
  have hky := kyR_lt hn hp hr
  have hAB : (nI row &&& (((1 : Int32) <<< ((2 * c.1 9 p 0) &&& 31)) - 1)) ||| ((nI row >>> ((2 * c.1 9 p 0 + 2) &&& 31)) <<< ((2 * c.1 9 p 0) &&& 31)) = nI (kyR row p) := by
    rw [hnum]
    exact nI_ky (by omega) (by omega)
  obtain ⟨hP, hS⟩ := ky_places hAB hky
  have hPc := pk_cl (kyR row p / 8) hP
  have hin := pk_in (kyR row p / 8) 128 (by omega) hP
  refine go_ev 150 [] (dI hin ?_)
  refine bI (c := (c.2.1 10 p ((((nI row &&& (((1 : Int32) <<< ((2 * c.1 9 p 0) &&& 31)) - 1)) ||| ((nI row >>> ((2 * c.1 9 p 0 + 2) &&& 31)) <<< ((2 * c.1 9 p 0) &&& 31))) >>> ((3 : Int32) &&& 31)) &&& 127).toNatClampNeg >>> ((4 * (((nI row &&& (((1 : Int32) <<< ((2 * c.1 9 p 0) &&& 31)) - 1)) ||| ((nI row >>> ((2 * c.1 9 p 0 + 2) &&& 31)) <<< ((2 * c.1 9 p 0) &&& 31))) &&& 7)) &&& 31)) &&& 15 = 0) (fun h => ?_) (fun h => ?_)
  · rw [hPc, hS, nb_get (by omega)] at h
    have h0 : nb (c.2.1 10 p (kyR row p / 8)) (kyR row p % 8) = 0 := (nIeq (by
      have : nb (c.2.1 10 p (kyR row p / 8)) (kyR row p % 8) < 16 := Nat.mod_lt _ (by decide)
      omega) (by decide)).mp h
    have hL : Fn 1 31 [vR false 19 0, vI (c.1 9 p 0), vI (nI row), vI (nI day), vI (nI n)] (c, m) (lkd c n p row day, m) none := by
      rw [hnum]
      exact c_look (by omega) (by omega) _ _
    have hkp : ∀ (P Sh : Int32), P.toNatClampNeg = kyR row p / 8 → Sh = nI (4 * (kyR row p % 8)) → KP n (Ts p) ((lkd c n p row day).1, upA c.2.1 10 p P.toNatClampNeg (c.2.1 10 p P.toNatClampNeg ||| ((nI (letT n p row day (Ts p)) + 1) <<< (Sh &&& 31))), c.2.2) p := by
      intro P Sh hPc hS
      refine Or.inr ⟨day, ⟨hd1, hday⟩, hkd, fun row2 hr2 => ?_⟩
      rw [hPc, hS, ← nI_succ]
      show nb (upA c.2.1 10 p _ _ 10 p (kyR row2 p / 8)) _ = 0 ∨ nb (upA c.2.1 10 p _ _ 10 p (kyR row2 p / 8)) _ = _
      rw [upA_s]
      by_cases hpl : kyR row2 p / 8 = kyR row p / 8
      · rw [hpl, pk_us, nb_put (by omega) (by omega) h0]
        by_cases hsh : kyR row2 p % 8 = kyR row p % 8
        · rw [if_pos hsh]
          have := kyR_same (show kyR row p = kyR row2 p by omega)
          rw [this, letT_own (dd_lt _ _)]
          exact Or.inr rfl
        · rw [if_neg hsh, ← hpl]
          exact hv row2 hr2
      · rw [pk_un hpl]
        exact hv row2 hr2
    refine iF hL (by decide) ?_
    refine iF (c_tAllowed (lkd_scn c n p row day) hn hp hr hday (lkd_CT hT) hok) (by decide) ?_
    refine dI hin (dI hin ?_)
    refine qoi ?_ ?_
    · have hsam : ∀ (x : Int32) (j : Nat), Sam c ((lkd c n p row day).1, upA c.2.1 10 p j x, c.2.2) := fun x j => ⟨(lkd_sam c n p row day).1, fun k i h1 => upA_n _ _ (fun z => h1 z.1), rfl⟩
      refine And.intro (CV_sam (hsam _ _) hV (fun q hq => ?_)) (hsam _ _)
      by_cases hqp : q = p
      · subst hqp
        exact hkp _ _ hPc hS
      · have := (hV.2 q hq).2.2
        unfold KP at this ⊢
        show c.1 9 q 6 = 0 ∨ ∃ d, (1 ≤ d ∧ d ≤ 9) ∧ c.1 9 q 6 = nI d ∧ ∀ row, row < 4 ^ n → nb (upA c.2.1 10 p _ _ 10 q (kyR row q / 8)) (kyR row q % 8) = 0 ∨ nb (upA c.2.1 10 p _ _ 10 q (kyR row q / 8)) (kyR row q % 8) = letT n q row d (Ts q) + 1
        rw [upA_n _ _ (fun z => hqp z.2)]
        exact this
    · exact Int32.add_sub_cancel _ _
  · have hK := h
    rw [hPc, hS, nb_get (by omega)] at hK
    have h0 : nb (c.2.1 10 p (kyR row p / 8)) (kyR row p % 8) = letT n p row day (Ts p) + 1 := (hv row hr).resolve_left (fun z => hK (by rw [z]; rfl))
    refine qoi (And.intro hV (Sam_rfl c)) ?_
    have e : ((c.2.1 10 p (((((nI row &&& (((1 : Int32) <<< ((2 * c.1 9 p 0) &&& 31)) - 1)) ||| ((nI row >>> ((2 * c.1 9 p 0 + 2) &&& 31)) <<< ((2 * c.1 9 p 0) &&& 31))) >>> ((3 : Int32) &&& 31)) &&& 127).toNatClampNeg) >>> ((4 * (((nI row &&& (((1 : Int32) <<< ((2 * c.1 9 p 0) &&& 31)) - 1)) ||| ((nI row >>> ((2 * c.1 9 p 0 + 2) &&& 31)) <<< ((2 * c.1 9 p 0) &&& 31))) &&& 7)) &&& 31)) &&& 15) - 1 = nI (letT n p row day (Ts p)) := by
      rw [hPc, hS, nb_get (by omega), h0, nI_succ, Int32.add_sub_cancel]
    exact e
theorem c_often {Q : Wd → Option PV → Prop} (hQ : ∀ w' r', QO n Ts c m (nI (letT n p row day (Ts p))) w' r' → Q w' r') (hn : n ≤ 6) (hp : p < n) (hr : row < 4 ^ n) (hd1 : 1 ≤ day) (hday : day ≤ 9) (hV : CV n Ts c) (hok : okT (Ts p)) : Ctr 3 9 [vR false 9 p, vI (nI row), vI (nI day), vI (nI n)] (c, m) Q := by
  refine ctr_of (nblt rfl) (Nat.le_of_ble_eq_true rfl) (Go_mono (Q := QO n Ts c m (nI (letT n p row day (Ts p)))) (go_ev 80 [21] ?_) hQ)
  refine bI (c := c.1 9 p 6 = nI day) (fun h => ?_) (fun h => ?_)
  · rcases (hV.2 p (by omega)).2.2 with h0 | ⟨d, hd, hd2, hv⟩
    · rw [h0] at h
      have := (nIeq (a := 0) (by decide) (by omega)).mp h
      omega
    · have hdd : d = day := by
        rw [h] at hd2
        exact ((nIeq (by omega) (by omega)).mp hd2).symm
      subst hdd
      exact c_oftenRest hn hp hr hd1 hday hV hok h hv
  · refine iC (c_fill c m p) (by decide) ?_
    rintro _ _ ⟨a, rfl, ha1, ha2, rfl⟩
    have hsam : Sam c (up3 c.1 9 p 6 (nI day), a, c.2.2) := ⟨fun k i f h1 h2 => up3_n _ _ (fun z => h2 z.1 z.2.2), fun k i h1 => ha1 k i (fun z => h1 z.1), rfl⟩
    have hz : ∀ row, row < 4 ^ n → nb (a 10 p (kyR row p / 8)) (kyR row p % 8) = 0 := fun row hr => by
      have := kyR_lt hn hp hr
      rw [ha2 _ (by omega)]
      unfold nb
      rw [show (0 : Int32).toBitVec.toNat = 0 from rfl, Nat.zero_div]
    have hV' : CV n Ts (up3 c.1 9 p 6 (nI day), a, c.2.2) := CV_sam hsam hV (fun q hq => by
      by_cases hqp : q = p
      · subst hqp
        exact Or.inr ⟨day, ⟨hd1, hday⟩, up3_s c.1 9 q 6 (nI day), fun row hr => Or.inl (hz row hr)⟩
      · have := (hV.2 q hq).2.2
        unfold KP at this ⊢
        show up3 c.1 9 p 6 (nI day) 9 q 6 = 0 ∨ ∃ d, (1 ≤ d ∧ d ≤ 9) ∧ up3 c.1 9 p 6 (nI day) 9 q 6 = nI d ∧ ∀ row, row < 4 ^ n → nb (a 10 q (kyR row q / 8)) (kyR row q % 8) = 0 ∨ nb (a 10 q (kyR row q / 8)) (kyR row q % 8) = letT n q row d (Ts q) + 1
        rw [up3_n _ _ (fun z => hqp z.2.1), ha1 10 q (fun z => hqp z.2)]
        exact this)
    have hgo := c_oftenRest (m := m) hn hp hr hd1 hday hV' hok (up3_s c.1 9 p 6 (nI day)) (fun row hr => Or.inl (hz row hr))
    exact Go_mono hgo (fun w' r' ⟨c', e1, ⟨e2, e3⟩, e4⟩ => ⟨c', e1, ⟨e2, Sam_tr hsam e3⟩, e4⟩)
end OFT
end
section
/-! the class's village, for the calls above -/
def lV (n : Nat) (Ts : Nat → Trm) (p row day : Nat) : Nat := letT n p row day (Ts p)
def Cls (X : Sd → Prop) : Prop := ∀ c c', Sam c c' → X c → X c'
section VLG
variable {n : Nat} {Ts : Nat → Trm} {X I : Sd → Prop}
theorem CV_lkd {c : Sd} (p row day : Nat) (hV : CV n Ts c) : CV n Ts (lkd c n p row day) := CV_sam (lkd_sam _ _ _ _ _) hV (fun q hq => (hV.2 q hq).2.2)
theorem CH_of (h1 : 1 ≤ n) (h6 : n ≤ 6) (hok : ∀ p, okT (Ts p)) (hX : Cls X) (hI : ∀ c, I c ↔ CV n Ts c ∧ X c) : CH n (lV n Ts) I := by
  refine ⟨⟨h1, h6⟩, fun p row day => letT_lt (hok p), fun c hc => ((hI c).mp hc).1.1, fun c m hc p row day hp hr hd1 hd9 => ?_, fun c m hc p row day hp hr hd1 hd9 => ?_, trivial⟩
  · obtain ⟨hV, hXc⟩ := (hI c).mp hc
    have hr6 := pow4_le h6
    obtain ⟨hnum, hT, -⟩ := hV.2 p (by omega)
    rw [show (nI p).toNatClampNeg = p from pk_cl p, hV.1]
    have hL : Fn 1 31 [vR false 19 0, vI (c.1 9 p 0), vI (nI row), vI (nI day), vI (nI n)] (c, m) (lkd c n p row day, m) none := by
      rw [hnum]
      exact c_look (by omega) (by omega) _ _
    refine ctr_ev 40 [] rfl rfl (iF hL (by decide) ?_)
    refine iF (c_tAllowed (lkd_scn c n p row day) h6 hp hr hd9 (lkd_CT hT) (hok p)) (by decide) ?_
    exact pqi ((hI _).mpr ⟨CV_lkd p row day hV, hX _ _ (lkd_sam c n p row day) hXc⟩) rfl
  · obtain ⟨hV, hXc⟩ := (hI c).mp hc
    rw [show (nI p).toNatClampNeg = p from pk_cl p, hV.1]
    refine c_often (fun w' r' h => ?_) h6 hp hr hd1 hd9 hV (hok p)
    obtain ⟨c', e1, ⟨e2, e3⟩, e4⟩ := h
    exact ⟨c', e1, (hI _).mpr ⟨e2, hX _ _ e3 hXc⟩, e4⟩
theorem CK_of (h1 : 1 ≤ n) (h6 : n ≤ 6) (hok : ∀ p, okT (Ts p)) (hX : Cls X) (hX2 : ∀ c m f x, X c → X (sF (c, m) false 20 0 f x).1) : CK n (lV n Ts) (fun c => CV n Ts c ∧ X c) := by
  refine ⟨fun g => CH_of (X := fun c => X c ∧ ∀ f, c.1 20 0 f = g f) h1 h6 hok (fun c c' hs hc => ⟨hX c c' hs hc.1, fun f => (hs.1 20 0 f (by decide) (fun z => absurd z (by decide))).trans (hc.2 f)⟩) (fun c => and_assoc), fun c m f x hc => ⟨?_, hX2 c m f x hc.2⟩⟩
  exact hc.1
theorem hown_of (p row day d : Nat) (hd : d < 4) : lV n Ts p (wdd row p d) day = lV n Ts p row day := letT_own hd _ _
end VLG
end
section
/-! the model: whether one condition holds -/
def effM (m : Sd) (p s : Nat) : Int32 := m.2.1 9 0 (64 * p + s) - (if nI p = m.1 0 0 37 then m.2.1 38 0 s else 0)
def effG (m : Sd) (p s : Nat) : Int32 := m.2.1 10 0 (64 * p + s) - (if nI p = m.1 0 0 37 then m.2.1 39 0 s else 0)
def mStp (m : Sd) (p s : Nat) (e : StpT) : Prop := m.2.1 6 0 (64 * p + s) = nI e.1 ∧ (e.1 < 5 → m.2.1 7 0 (64 * p + s) = nI e.2.1 ∧ m.2.1 8 0 (64 * p + s) = nI e.2.2.1 ∧ effG m p s = nI e.2.2.2.2.1) ∧ (2 ≤ e.1 → e.1 < 5 → effM m p s = nI e.2.2.2.1)
section MON
variable {n p row day : Nat} {c m : Sd}
theorem m_oneHolds (hmn : m.1 0 0 0 = nI n) (hn : n ≤ 6) (hp : p < n) (hr : row < 4 ^ n) (hday : day ≤ 9) {s : Nat} (hs : s < 64) {e : StpT} (he : okE e) (h5 : e.1 < 5) (hE : mStp m p s e) : Fn 1 122 [vR true 0 0, vI (nI p), vI (nI s), vI (nI row), vI (nI day)] (c, m) (c, m) (some (vI (bi (vv n p row day e = true)))) := by
  obtain ⟨kk, fr, to, many, give, tb⟩ := e
  obtain ⟨-, hf6, ht6, hm100, hg100⟩ := he
  have hf6 : fr < 6 := hf6
  have ht6 : to < 6 := ht6
  have hm100 : many < 100 := hm100
  have hg100 : give < 100 := hg100
  have h5 : kk < 5 := h5
  obtain ⟨e0, e1, e4⟩ := hE
  obtain ⟨e1, e2, e3⟩ := e1 h5
  have e4 : 2 ≤ kk → effM m p s = nI many := fun z => e4 z h5
  have hr6 := pow4_le hn
  have hix : (64 : Int32) * nI p + nI s = nI (64 * p + s) := by rw [show (64 : Int32) = nI 64 from rfl, pk_mul, nIadd]
  have hic := pk_cl (64 * p + s) hix
  have hin := pk_in (64 * p + s) 384 (by omega) hix
  have hsc : (nI s).toNatClampNeg = s := pk_cl s
  have hsin : vp_in (nI s) 64 := pk_in s 64 hs
  have f0 : m.2.1 6 0 ((64 : Int32) * nI p + nI s).toNatClampNeg = nI kk := by rw [hic]; exact e0
  have f1 : m.2.1 7 0 ((64 : Int32) * nI p + nI s).toNatClampNeg = nI fr := by rw [hic]; exact e1
  have f2 : m.2.1 8 0 ((64 : Int32) * nI p + nI s).toNatClampNeg = nI to := by rw [hic]; exact e2
  have e3 : effG m p s = nI give := e3
  have key : ∀ (M : Int32), (2 ≤ kk → M = nI many) → ∀ (j k : Nat) (x a g sm : Int32) (v12 : Option PV), k + j = n → x = nI k → a = nI (cntB (oth p fr to) k) → g = nI (cntB (fun q => oth p fr to q && decide (give ≤ dd row q)) k) → sm = nI (sumX p row k) → kk ≠ 0 → kk ≠ 4 → Go 1 122 none 161 [some (vR true 0 0), some (vI (nI p)), some (vI (nI s)), some (vI (nI row)), some (vI (nI day)), some (vI ((64 : Int32) * nI p + nI s)), some (vI M), some (vI (nI give)), some (vI a), some (vI g), some (vI sm), some (vI x), v12] [] (c, m) (fun w' r' => w' = (c, m) ∧ r' = some (vI (bi (vv n p row day (kk, fr, to, many, give, tb) = true)))) := by
    intro M hM j
    induction j with
    | zero =>
      intro k x a g sm v12 hkn hx ha hgv hsv h0 h4
      have hkn : k = n := by omega
      subst hkn
      have b1 := cntB_le (oth p fr to) k
      have b2 := cntB_le (fun q => oth p fr to q && decide (give ≤ dd row q)) k
      have b3 := sumX_le p row k
      subst hx ha hgv hsv
      refine go_ev 80 [161] (bT (c := m.1 0 0 0 ≤ nI k) (by rw [hmn, nIle (by omega) (by omega)]; omega) ?_)
      refine dI hin (bI (c := m.2.1 6 0 ((64 : Int32) * nI p + nI s).toNatClampNeg = 3) (fun h => ?_) (fun h => dI hin (bI (c := m.2.1 6 0 ((64 : Int32) * nI p + nI s).toNatClampNeg = 1) (fun h1 => ?_) (fun h1 => ?_))))
      · rw [f0] at h
        have h : kk = 3 := (nIeq (by omega) (by decide)).mp h
        subst h
        rw [hM (by decide)]
        refine bI (c := nI (sumX p row k) < nI many) (fun h2 => ?_) (fun h2 => ?_)
        · rw [nIlt (by omega) (by omega)] at h2
          refine And.intro rfl (And.intro rfl ?_)
          rw [bi_f]
          show ¬ decide (many ≤ sumX p row k) = true
          rw [decide_eq_true_eq]
          omega
        · rw [nIlt (by omega) (by omega)] at h2
          refine And.intro rfl (And.intro rfl ?_)
          rw [bi_t]
          show decide (many ≤ sumX p row k) = true
          rw [decide_eq_true_eq]
          omega
      · rw [f0] at h1
        have h1 : kk = 1 := (nIeq (by omega) (by decide)).mp h1
        subst h1
        refine bI (c := nI (cntB (fun q => oth p fr to q && decide (give ≤ dd row q)) k) = nI (cntB (oth p fr to) k)) (fun h2 => ?_) (fun h2 => ?_)
        · rw [nIeq (by omega) (by omega)] at h2
          refine And.intro rfl (And.intro rfl ?_)
          rw [bi_t]
          show decide (cntB (fun q => oth p fr to q && decide (give ≤ dd row q)) k = cntB (oth p fr to) k) = true
          rw [decide_eq_true_eq]
          exact h2
        · rw [nIeq (by omega) (by omega)] at h2
          refine And.intro rfl (And.intro rfl ?_)
          rw [bi_f]
          show ¬ decide (cntB (fun q => oth p fr to q && decide (give ≤ dd row q)) k = cntB (oth p fr to) k) = true
          rw [decide_eq_true_eq]
          exact h2
      · have h2 : kk = 2 := by
          have a3 : kk ≠ 3 := fun z => h (by rw [f0, z]; rfl)
          have a1 : kk ≠ 1 := fun z => h1 (by rw [f0, z]; rfl)
          omega
        subst h2
        rw [hM (by decide)]
        refine bI (c := nI (cntB (fun q => oth p fr to q && decide (give ≤ dd row q)) k) < nI many) (fun h2 => ?_) (fun h2 => ?_)
        · rw [nIlt (by omega) (by omega)] at h2
          refine And.intro rfl (And.intro rfl ?_)
          rw [bi_f]
          show ¬ decide (many ≤ cntB (fun q => oth p fr to q && decide (give ≤ dd row q)) k) = true
          rw [decide_eq_true_eq]
          omega
        · rw [nIlt (by omega) (by omega)] at h2
          refine And.intro rfl (And.intro rfl ?_)
          rw [bi_t]
          show decide (many ≤ cntB (fun q => oth p fr to q && decide (give ≤ dd row q)) k) = true
          rw [decide_eq_true_eq]
          omega
    | succ j ih =>
      intro k x a g sm v12 hkn hx ha hgv hsv h0 h4
      subst hx ha hgv hsv
      have hd := dd_lt row k
      refine go_ev 80 [161] (bF (c := m.1 0 0 0 ≤ nI k) (by rw [hmn, nIle (by omega) (by omega)]; omega) ?_)
      refine bI (c := nI k = nI p) (fun h => ?_) (fun h => ?_)
      · rw [nIeq (by omega) (by omega)] at h
        have ho : oth p fr to k = false := by
          unfold oth
          rw [h, bne_self_eq_false, Bool.false_and]
        refine ih (k + 1) _ _ _ _ _ (by omega) (nI_succ k).symm ?_ ?_ ?_ h0 h4
        · simp only [cntB, ho]
          rfl
        · simp only [cntB, ho]
          rfl
        · simp only [sumX, if_pos h]
          rfl
      · rw [nIeq (by omega) (by omega)] at h
        have hsum : nI (sumX p row k) + nI (dd row k) = nI (sumX p row (k + 1)) := by
          rw [nIadd]
          simp only [sumX, if_neg h]
        refine iF (m_deed _ (by omega) (by omega)) (by decide) (dI hin ?_)
        refine bI (c := nI k < m.2.1 7 0 ((64 : Int32) * nI p + nI s).toNatClampNeg) (fun h1 => ?_) (fun h1 => dI hin (bI (c := m.2.1 8 0 ((64 : Int32) * nI p + nI s).toNatClampNeg < nI k) (fun h2 => ?_) (fun h2 => ?_)))
        · rw [f1, nIlt (by omega) (by omega)] at h1
          have ho : oth p fr to k = false := by
            unfold oth
            rw [show decide (fr ≤ k) = false from decide_eq_false (by omega), Bool.false_and, Bool.and_false]
          refine iF (m_one _ _) (by decide) (bT (c := (0 : Int32) = 0) rfl (iF (m_one _ _) (by decide) ?_))
          refine ih (k + 1) _ _ _ _ _ (by omega) (nI_succ k).symm ?_ ?_ hsum h0 h4
          · simp only [cntB, ho]
            exact Int32.add_zero _
          · simp only [cntB, ho]
            exact Int32.add_zero _
        · rw [f2, nIlt (by omega) (by omega)] at h2
          have ho : oth p fr to k = false := by
            unfold oth
            rw [show decide (k ≤ to) = false from decide_eq_false (by omega), Bool.and_false, Bool.and_false]
          refine iF (m_one _ _) (by decide) (bT (c := (0 : Int32) = 0) rfl (iF (m_one _ _) (by decide) ?_))
          refine ih (k + 1) _ _ _ _ _ (by omega) (nI_succ k).symm ?_ ?_ hsum h0 h4
          · simp only [cntB, ho]
            exact Int32.add_zero _
          · simp only [cntB, ho]
            exact Int32.add_zero _
        · rw [f1, nIlt (by omega) (by omega)] at h1
          rw [f2, nIlt (by omega) (by omega)] at h2
          have ho : oth p fr to k = true := by
            unfold oth
            rw [show decide (fr ≤ k) = true from decide_eq_true (by omega), show decide (k ≤ to) = true from decide_eq_true (by omega), bne_iff_ne.mpr h]
            rfl
          refine iF (m_one _ _) (by decide) (bF (c := (1 : Int32) = 0) (by decide) (iF (m_deed _ (by omega) (by omega)) (by decide) ?_))
          refine bI (c := nI (dd row k) < nI give) (fun h3 => ?_) (fun h3 => ?_)
          · rw [nIlt (by omega) (by omega)] at h3
            refine iF (m_one _ _) (by decide) ?_
            refine ih (k + 1) _ _ _ _ _ (by omega) (nI_succ k).symm ?_ ?_ hsum h0 h4
            · simp only [cntB, ho]
              exact (nI_succ _).symm
            · simp only [cntB, ho, show decide (give ≤ dd row k) = false from decide_eq_false (by omega)]
              exact Int32.add_zero _
          · rw [nIlt (by omega) (by omega)] at h3
            refine iF (m_one _ _) (by decide) ?_
            refine ih (k + 1) _ _ _ _ _ (by omega) (nI_succ k).symm ?_ ?_ hsum h0 h4
            · simp only [cntB, ho]
              exact (nI_succ _).symm
            · simp only [cntB, ho, show decide (give ≤ dd row k) = true from decide_eq_true (by omega)]
              exact (nI_succ _).symm
  have k64 : ∀ (M G : Int32), (2 ≤ kk → M = nI many) → G = nI give → Go 1 122 none 64 [some (vR true 0 0), some (vI (nI p)), some (vI (nI s)), some (vI (nI row)), some (vI (nI day)), some (vI ((64 : Int32) * nI p + nI s)), some (vI M), some (vI G), none, none, none, none, none] [] (c, m) (fun w' r' => w' = (c, m) ∧ r' = some (vI (bi (vv n p row day (kk, fr, to, many, give, tb) = true)))) := by
    intro M G hM hG
    subst hG
    refine go_ev 80 [161] (dI hin ?_)
    refine bI (c := m.2.1 6 0 ((64 : Int32) * nI p + nI s).toNatClampNeg = 0) (fun h => ?_) (fun h => dI hin (bI (c := m.2.1 6 0 ((64 : Int32) * nI p + nI s).toNatClampNeg = 4) (fun h2 => ?_) (fun h2 => ?_)))
    · rw [f0] at h
      have h : kk = 0 := (nIeq (by omega) (by decide)).mp h
      subst h
      have hd := dd_lt row fr
      have fin0 : ∀ (v : Nat), v < 4 → v = (if fr = p ∨ n ≤ fr then 0 else dd row fr) → (nI v < nI give → (0 : Int32) = bi (vv n p row day (0, fr, to, many, give, tb) = true)) ∧ (¬ nI v < nI give → (1 : Int32) = bi (vv n p row day (0, fr, to, many, give, tb) = true)) := by
        intro v hv4 hv
        rw [nIlt (by omega) (by omega)]
        constructor
        · intro z
          rw [bi_f]
          show ¬ decide (give ≤ (if fr = p ∨ n ≤ fr then 0 else dd row fr)) = true
          rw [← hv, decide_eq_true_eq]
          omega
        · intro z
          rw [bi_t]
          show decide (give ≤ (if fr = p ∨ n ≤ fr then 0 else dd row fr)) = true
          rw [← hv, decide_eq_true_eq]
          omega
      refine dI hin (bI (c := m.2.1 7 0 ((64 : Int32) * nI p + nI s).toNatClampNeg = nI p) (fun h1 => ?_) (fun h1 => dI hin (bI (c := m.2.1 7 0 ((64 : Int32) * nI p + nI s).toNatClampNeg < m.1 0 0 0) (fun h2 => ?_) (fun h2 => ?_))))
      · rw [f1, nIeq (by omega) (by omega)] at h1
        obtain ⟨g1, g2⟩ := fin0 0 (by decide) (by rw [if_pos (Or.inl h1)])
        exact bI (c := nI 0 < nI give) (fun h3 => And.intro rfl (And.intro rfl (congrArg (fun x => some (vI x)) (g1 h3)))) (fun h3 => And.intro rfl (And.intro rfl (congrArg (fun x => some (vI x)) (g2 h3))))
      · rw [f1, nIeq (by omega) (by omega)] at h1
        rw [f1, hmn, nIlt (by omega) (by omega)] at h2
        obtain ⟨g1, g2⟩ := fin0 (dd row fr) hd (by rw [if_neg (by omega)])
        have hD : Fn 0 121 [vI (nI row), vI (m.2.1 7 0 ((64 : Int32) * nI p + nI s).toNatClampNeg)] (c, m) (c, m) (some (vI (nI (dd row fr)))) := by
          rw [f1]
          exact m_deed _ (by omega) (by omega)
        refine dI hin (iF hD (by decide) ?_)
        exact bI (c := nI (dd row fr) < nI give) (fun h3 => And.intro rfl (And.intro rfl (congrArg (fun x => some (vI x)) (g1 h3)))) (fun h3 => And.intro rfl (And.intro rfl (congrArg (fun x => some (vI x)) (g2 h3))))
      · rw [f1, hmn, nIlt (by omega) (by omega)] at h2
        obtain ⟨g1, g2⟩ := fin0 0 (by decide) (by rw [if_pos (Or.inr (by omega))])
        exact bI (c := nI 0 < nI give) (fun h3 => And.intro rfl (And.intro rfl (congrArg (fun x => some (vI x)) (g1 h3)))) (fun h3 => And.intro rfl (And.intro rfl (congrArg (fun x => some (vI x)) (g2 h3))))
    · rw [f0] at h2
      have h2 : kk = 4 := (nIeq (by omega) (by decide)).mp h2
      subst h2
      rw [hM (by decide)]
      refine bI (c := nI many < nI day) (fun h3 => ?_) (fun h3 => ?_)
      · rw [nIlt (by omega) (by omega)] at h3
        refine And.intro rfl (And.intro rfl ?_)
        rw [bi_f]
        show ¬ decide (day ≤ many) = true
        rw [decide_eq_true_eq]
        omega
      · rw [nIlt (by omega) (by omega)] at h3
        refine And.intro rfl (And.intro rfl ?_)
        rw [bi_t]
        show decide (day ≤ many) = true
        rw [decide_eq_true_eq]
        omega
    · exact key M hM n 0 0 0 0 0 none (by omega) rfl rfl rfl rfl (fun z => h (by rw [f0, z]; rfl)) (fun z => h2 (by rw [f0, z]; rfl))
  refine ctr_ev 80 [64] rfl rfl (dI hin ?_)
  refine bI (c := nI p = m.1 0 0 37) (fun h => ?_) (fun h => ?_)
  · unfold effM at e4
    unfold effG at e3
    rw [if_pos h] at e4 e3
    have e4 : 2 ≤ kk → m.2.1 9 0 ((64 : Int32) * nI p + nI s).toNatClampNeg - m.2.1 38 0 (nI s).toNatClampNeg = nI many := fun z => by
      rw [hic, hsc]
      exact e4 z
    have e3 : m.2.1 10 0 ((64 : Int32) * nI p + nI s).toNatClampNeg - m.2.1 39 0 (nI s).toNatClampNeg = nI give := by
      rw [hic, hsc]
      exact e3
    exact dI hsin (dI hin (bT (c := nI p = m.1 0 0 37) h (dI hsin (k64 _ _ e4 e3))))
  · unfold effM at e4
    unfold effG at e3
    rw [if_neg h, ← hic] at e4 e3
    exact dI hin (bF (c := nI p = m.1 0 0 37) h (k64 _ _ e4 e3))
end MON
end
section
/-! the model: whether a rule holds -/
/-- bits at the bottom of a row, the latest last -/
def tru (a : Nat → Int32) : List Bool → Prop
  | [] => True
  | b :: t => a t.length = bi (b = true) ∧ tru a t
theorem tru_upd {a : Nat → Int32} {x : Int32} : ∀ {st : List Bool} {j : Nat}, st.length ≤ j → tru a st → tru (upd a j x) st
  | [], _, _, _ => trivial
  | _ :: t, j, h, hs => by
    have h : t.length + 1 ≤ j := h
    exact ⟨by rw [pk_un (by omega)]; exact hs.1, tru_upd (by omega) hs.2⟩
theorem tru_last {a : Nat → Int32} {st : List Bool} {b : Bool} (h : tru a (st ++ [b])) : a 0 = bi (b = true) := by
  induction st with
  | nil => exact h.1
  | cons x t ih => exact ih h.2
/-- what holds, over rows of bits that may change -/
def TrS (m m' : Sd) : Prop := m'.1 = m.1 ∧ (∀ k i, k ≠ 40 → m'.2.1 k i = m.2.1 k i) ∧ m'.2.2 = m.2.2
def mStps (m : Sd) (p : Nat) (S : List StpT) : Prop := ∀ s e, S[s]? = some e → mStp m p s e
theorem mStps_trs {m m' : Sd} {p : Nat} {S : List StpT} (h : TrS m m') (hS : mStps m p S) : mStps m' p S := by
  intro s e he
  have := hS s e he
  unfold mStp effM effG at this ⊢
  rw [h.1, h.2.1 6 0 (by decide), h.2.1 7 0 (by decide), h.2.1 8 0 (by decide), h.2.1 9 0 (by decide), h.2.1 10 0 (by decide), h.2.1 38 0 (by decide), h.2.1 39 0 (by decide)]
  exact this
def QT (m c : Sd) (r : Int32) : Wd → Option PV → Prop := fun w' r' => ∃ m', w' = (c, m') ∧ TrS m m' ∧ r' = some (vI r)
theorem qti {m c m' : Sd} {r r' : Int32} (h : TrS m m') (h2 : r' = r) : QT m c r (c, m') (some (vI r')) := ⟨m', rfl, h, by rw [h2]⟩
theorem TrS_rfl (m : Sd) : TrS m m := ⟨rfl, fun _ _ _ => rfl, rfl⟩
theorem TrS_upd {m m' : Sd} (h : TrS m m') (j : Nat) (x : Int32) : TrS m (m'.1, upA m'.2.1 40 0 j x, m'.2.2) := ⟨h.1, fun k i hk => (upA_n _ _ (fun z => hk z.1)).trans (h.2.1 k i hk), h.2.2⟩
theorem nar_bi (b : Prop) [Decidable b] : vp_nar .boolean (bi b) = bi b := by
  by_cases h : b
  · rw [bi_t h]; rfl
  · rw [bi_f h]; rfl
theorem bb0 (b : Bool) : bi (b = true) = 0 ↔ b = false := by
  rw [bi_0]
  exact Bool.not_eq_true b ▸ Iff.rfl
section MHO
variable {n p row day : Nat} {c m : Sd} {S : List StpT}
theorem m_holds (hmn : m.1 0 0 0 = nI n) (hn : n ≤ 6) (hp : p < n) (hr : row < 4 ^ n) (hday : day ≤ 9) (hE : ∀ e ∈ S, okE e) (h64 : S.length ≤ 64) (hS : mStps m p S) {r f e : Nat} (hr25 : r < 25) (hsf : m.2.1 4 0 (25 * p + r) = nI f) (hst : m.2.1 5 0 (25 * p + r) = nI e) (hfe : f ≤ e) (he : e ≤ S.length) (hd : e = f ∨ dpS (seg S f e) 0 = some 1) : Ctr 2 123 [vR true 0 0, vI (nI p), vI (nI r), vI (nI row), vI (nI day)] (c, m) (QT m c (bi (e = f ∨ hldB n p row day S f e = true))) := by
  have hix : (25 : Int32) * nI p + nI r = nI (25 * p + r) := by rw [show (25 : Int32) = nI 25 from rfl, pk_mul, nIadd]
  have hic := pk_cl (25 * p + r) hix
  have hin := pk_in (25 * p + r) 150 (by omega) hix
  have key : ¬ e = f → ∀ (j s : Nat) (x tp : Int32) (st : List Bool) (v7 : Option PV) (m' : Sd), s + j = e → x = nI s → tp = nI st.length → TrS m m' → tru (m'.2.1 40 0) st → st.length < 30 → dpS (seg S s e) st.length = some 1 → evS (vv n p row day) (seg S f e) [] = evS (vv n p row day) (seg S s e) st → Go 2 123 none 16 [some (vR true 0 0), some (vI (nI p)), some (vI (nI r)), some (vI (nI row)), some (vI (nI day)), some (vI tp), some (vI x), v7] [] (c, m') (QT m c (bi (e = f ∨ hldB n p row day S f e = true))) := by
    intro hne j
    induction j with
    | zero =>
      intro s x tp st v7 m' hse hx htp hTr htr h30 hdp hev
      have hse : s = e := by omega
      subst hse
      rw [seg_nil] at hdp hev
      subst hx htp
      have h1 : st.length = 1 := Option.some.inj hdp
      obtain ⟨b, rfl⟩ : ∃ b, st = [b] := by
        rcases st with _ | ⟨b, _ | ⟨b', t'⟩⟩
        · exact absurd h1 (by decide)
        · exact ⟨b, rfl⟩
        · simp at h1
      have hv : hldB n p row day S f s = b := by
        unfold hldB
        rw [hev]
        cases b <;> rfl
      have hto : m'.2.1 5 0 ((25 : Int32) * nI p + nI r).toNatClampNeg = nI s := by
        rw [hic, hTr.2.1 5 0 (by decide)]
        exact hst
      have hb0 : m'.2.1 40 0 0 = bi (b = true) := htr.1
      refine go_ev 80 [16] (dI hin (bT (c := m'.2.1 5 0 ((25 : Int32) * nI p + nI r).toNatClampNeg ≤ nI s) (by rw [hto]; exact Int32.le_refl _) ?_))
      refine bF (c := nI 1 = 0) (by decide) (dI (pk_in 0 64 (by decide)) ?_)
      refine bI (c := m'.2.1 40 0 0 = 0) (fun h => ?_) (fun h => ?_)
      · rw [hb0, bb0] at h
        refine And.intro rfl (qti hTr ?_)
        rw [bi_f]
        rintro (z | z)
        · exact hne z
        · rw [hv, h] at z
          cases z
      · rw [hb0, bb0, Bool.not_eq_false] at h
        refine And.intro rfl (qti hTr ?_)
        rw [bi_t (Or.inr (hv.trans h))]
    | succ j ih =>
      intro s x tp st v7 m' hse hx htp hTr htr h30 hdp hev
      subst hx htp
      have hsl : s < S.length := by omega
      obtain ⟨a, ha⟩ : ∃ a, S[s]? = some a := ⟨_, List.getElem?_eq_getElem hsl⟩
      have hcs := mStps_trs hTr hS s a ha
      have hoe := hE a (List.mem_of_getElem? ha)
      rw [seg_cons ha (by omega)] at hdp hev
      have hdp : (match dpO a st.length with
        | none => none
        | some d' => dpS (seg S (s + 1) e) d') = some 1 := hdp
      obtain ⟨d', hd', hdp2⟩ : ∃ d', dpO a st.length = some d' ∧ dpS (seg S (s + 1) e) d' = some 1 := by
        cases hq : dpO a st.length with
        | none => rw [hq] at hdp; exact absurd hdp (by simp)
        | some d' => rw [hq] at hdp; exact ⟨d', rfl, hdp⟩
      obtain ⟨hl, hl30⟩ := evO_len (v := vv n p row day) hd'
      have hgo : ∀ (tp : Int32) (i : Nat) (x : Int32) (v7 : Option PV), tp = nI (evO (vv n p row day) a st).length → tru (upd (m'.2.1 40 0) i x) (evO (vv n p row day) a st) → Go 2 123 none 16 [some (vR true 0 0), some (vI (nI p)), some (vI (nI r)), some (vI (nI row)), some (vI (nI day)), some (vI tp), some (vI (nI s + 1)), v7] [] (c, (m'.1, upA m'.2.1 40 0 i x, m'.2.2)) (QT m c (bi (e = f ∨ hldB n p row day S f e = true))) := fun tp i x v7 h1 h2 =>
        ih (s + 1) (nI s + 1) tp (evO (vv n p row day) a st) v7 (m'.1, upA m'.2.1 40 0 i x, m'.2.2) (by omega) (nI_succ s).symm h1 (TrS_upd hTr i x) (by
          show tru (upA m'.2.1 40 0 i x 40 0) _
          rw [upA_s]
          exact h2) (by rw [hl]; exact hl30 h30) (by rw [hl]; exact hdp2) hev
      have hix2 : (64 : Int32) * nI p + nI s = nI (64 * p + s) := by rw [show (64 : Int32) = nI 64 from rfl, pk_mul, nIadd]
      have hic2 := pk_cl (64 * p + s) hix2
      have hin2 := pk_in (64 * p + s) 384 (by omega) hix2
      have hk : m'.2.1 6 0 ((64 : Int32) * nI p + nI s).toNatClampNeg = nI a.1 := by rw [hic2]; exact hcs.1
      have hk8 := hoe.1
      have hto : m'.2.1 5 0 ((25 : Int32) * nI p + nI r).toNatClampNeg = nI e := by
        rw [hic, hTr.2.1 5 0 (by decide)]
        exact hst
      refine go_ev 80 [16] (dI hin (bF (c := m'.2.1 5 0 ((25 : Int32) * nI p + nI r).toNatClampNeg ≤ nI s) (by rw [hto, nIle (by omega) (by omega)]; omega) ?_))
      refine dI hin2 ?_
      refine bI (c := m'.2.1 6 0 ((64 : Int32) * nI p + nI s).toNatClampNeg = 5) (fun h => ?_) (fun h => ?_)
      · rw [hk] at h
        have hk5 : a.1 = 5 := (nIeq (by omega) (by decide)).mp h
        obtain ⟨b, t', rfl⟩ : ∃ b t', st = b :: t' := by
          rcases st with _ | ⟨b, t'⟩
          · unfold dpO at hd'
            rw [hk5] at hd'
            exact absurd hd' (by simp)
          · exact ⟨b, t', rfl⟩
        have e1 : evO (vv n p row day) a (b :: t') = (!b) :: t' := by
          cases t' <;> simp [evO, hk5]
        rw [e1] at hgo
        have hi1 : nI (b :: t').length - 1 = nI t'.length := by rw [List.length_cons, nI_succ, Int32.add_sub_cancel]
        have hc1 := pk_cl t'.length hi1 (by simp at h30; omega)
        have hn1 := pk_in t'.length 64 (by simp at h30; omega) hi1
        have hbv : m'.2.1 40 0 (nI (b :: t').length - 1).toNatClampNeg = bi (b = true) := by rw [hc1]; exact htr.1
        refine dI hn1 (bI (c := m'.2.1 40 0 (nI (b :: t').length - 1).toNatClampNeg = 0) (fun h2 => ?_) (fun h2 => ?_))
        · rw [hbv, bb0] at h2
          subst h2
          refine dI hn1 (hgo _ _ _ _ rfl ?_)
          rw [hc1]
          exact ⟨pk_us, tru_upd (Nat.le_refl _) htr.2⟩
        · rw [hbv, bb0, Bool.not_eq_false] at h2
          subst h2
          refine dI hn1 (hgo _ _ _ _ rfl ?_)
          rw [hc1]
          exact ⟨pk_us, tru_upd (Nat.le_refl _) htr.2⟩
      · rw [hk] at h
        have hn5 : ¬ a.1 = 5 := fun z => h (by rw [z]; rfl)
        have bin : a.1 = 6 ∨ a.1 = 7 → ∃ x y t', st = x :: y :: t' := by
          intro z
          rcases st with _ | ⟨x, _ | ⟨y, t'⟩⟩
          · unfold dpO at hd'
            rw [if_neg (by omega), if_neg hn5] at hd'
            exact absurd hd' (by simp)
          · unfold dpO at hd'
            rw [if_neg (by omega), if_neg hn5] at hd'
            exact absurd hd' (by simp)
          · exact ⟨x, y, t', rfl⟩
        have two : ∀ (x y : Bool) (t' : List Bool), st = x :: y :: t' → (nI st.length + (-1) = nI (t'.length + 1) ∧ nI st.length + (-1) - 1 = nI t'.length) := by
          rintro x y t' rfl
          have q1 : nI (x :: y :: t').length + (-1) = nI (t'.length + 1) := pk_m1 (t'.length + 1)
          exact ⟨q1, by rw [q1, nI_succ, Int32.add_sub_cancel]⟩
        refine bI (c := m'.2.1 6 0 ((64 : Int32) * nI p + nI s).toNatClampNeg = Int32.ofInt 6) (fun h6 => ?_) (fun h6 => bI (c := m'.2.1 6 0 ((64 : Int32) * nI p + nI s).toNatClampNeg = Int32.ofInt 7) (fun h7 => ?_) (fun h7 => ?_))
        · rw [hk] at h6
          have hkk : a.1 = 6 := (nIeq (by omega) (by decide)).mp h6
          obtain ⟨x, y, t', rfl⟩ := bin (Or.inl hkk)
          obtain ⟨w1, w2⟩ := two x y t' rfl
          have e1 : evO (vv n p row day) a (x :: y :: t') = (y && x) :: t' := by
            simp [evO, hkk]
          rw [e1] at hgo
          have l30 : t'.length + 1 < 30 := by
            simp at h30
            omega
          have c1 := pk_cl (t'.length + 1) w1 (by omega)
          have c2 := pk_cl t'.length w2 (by omega)
          have n1 := pk_in (t'.length + 1) 64 (by omega) w1
          have n2 := pk_in t'.length 64 (by omega) w2
          have v1 : m'.2.1 40 0 (nI (x :: y :: t').length + (-1)).toNatClampNeg = bi (x = true) := by rw [c1]; exact htr.1
          have v2 : m'.2.1 40 0 (nI (x :: y :: t').length + (-1) - 1).toNatClampNeg = bi (y = true) := by rw [c2]; exact htr.2.1
          have fin : ∀ (z : Bool), tru (upd (m'.2.1 40 0) (nI (x :: y :: t').length + (-1) - 1).toNatClampNeg (bi (z = true))) (z :: t') := fun z => by
            rw [c2]
            exact ⟨pk_us, tru_upd (Nat.le_refl _) htr.2.2⟩
          refine bT (c := m'.2.1 6 0 ((64 : Int32) * nI p + nI s).toNatClampNeg = Int32.ofInt 6) (by rw [hk, hkk]; rfl) (dI n2 ?_)
          refine bI (c := m'.2.1 40 0 (nI (x :: y :: t').length + (-1) - 1).toNatClampNeg = 0) (fun g1 => ?_) (fun g1 => dI n1 (bI (c := m'.2.1 40 0 (nI (x :: y :: t').length + (-1)).toNatClampNeg = 0) (fun g2 => ?_) (fun g2 => ?_)))
          · rw [v2, bb0] at g1
            subst g1
            exact dI n2 (hgo _ _ _ _ w1 (fin false))
          · rw [v2, bb0, Bool.not_eq_false] at g1
            rw [v1, bb0] at g2
            subst g1 g2
            exact dI n2 (hgo _ _ _ _ w1 (fin false))
          · rw [v2, bb0, Bool.not_eq_false] at g1
            rw [v1, bb0, Bool.not_eq_false] at g2
            subst g1 g2
            exact dI n2 (hgo _ _ _ _ w1 (fin true))
        · rw [hk] at h7
          have hkk : a.1 = 7 := (nIeq (by omega) (by decide)).mp h7
          obtain ⟨x, y, t', rfl⟩ := bin (Or.inr hkk)
          obtain ⟨w1, w2⟩ := two x y t' rfl
          have e1 : evO (vv n p row day) a (x :: y :: t') = (y || x) :: t' := by
            simp [evO, hkk]
          rw [e1] at hgo
          have l30 : t'.length + 1 < 30 := by
            simp at h30
            omega
          have c1 := pk_cl (t'.length + 1) w1 (by omega)
          have c2 := pk_cl t'.length w2 (by omega)
          have n1 := pk_in (t'.length + 1) 64 (by omega) w1
          have n2 := pk_in t'.length 64 (by omega) w2
          have v1 : m'.2.1 40 0 (nI (x :: y :: t').length + (-1)).toNatClampNeg = bi (x = true) := by rw [c1]; exact htr.1
          have v2 : m'.2.1 40 0 (nI (x :: y :: t').length + (-1) - 1).toNatClampNeg = bi (y = true) := by rw [c2]; exact htr.2.1
          have fin : ∀ (z : Bool), tru (upd (m'.2.1 40 0) (nI (x :: y :: t').length + (-1) - 1).toNatClampNeg (bi (z = true))) (z :: t') := fun z => by
            rw [c2]
            exact ⟨pk_us, tru_upd (Nat.le_refl _) htr.2.2⟩
          refine bF (c := m'.2.1 6 0 ((64 : Int32) * nI p + nI s).toNatClampNeg = Int32.ofInt 6) h6 (dI n2 ?_)
          refine bI (c := m'.2.1 40 0 (nI (x :: y :: t').length + (-1) - 1).toNatClampNeg = 0) (fun g1 => dI n1 (bI (c := m'.2.1 40 0 (nI (x :: y :: t').length + (-1)).toNatClampNeg = 0) (fun g2 => ?_) (fun g2 => ?_))) (fun g1 => ?_)
          · rw [v2, bb0] at g1
            rw [v1, bb0] at g2
            subst g1 g2
            exact dI n2 (hgo _ _ _ _ w1 (fin false))
          · rw [v2, bb0] at g1
            rw [v1, bb0, Bool.not_eq_false] at g2
            subst g1 g2
            exact dI n2 (hgo _ _ _ _ w1 (fin true))
          · rw [v2, bb0, Bool.not_eq_false] at g1
            subst g1
            exact dI n2 (hgo _ _ _ _ w1 (fin true))
        · have hlt : a.1 < 5 := by
            rw [hk] at h6 h7
            rcases Nat.lt_or_ge a.1 5 with z | z
            · exact z
            · exfalso
              rcases (show a.1 = 5 ∨ a.1 = 6 ∨ a.1 = 7 by omega) with q | q | q
              · exact hn5 q
              · exact h6 (by rw [q]; rfl)
              · exact h7 (by rw [q]; rfl)
          have e1 : evO (vv n p row day) a st = vv n p row day a :: st := by
            rcases st with _ | ⟨x, _ | ⟨y, t'⟩⟩ <;> simp [evO, hlt]
          rw [e1] at hgo
          have hci : (nI st.length).toNatClampNeg = st.length := pk_cl st.length
          refine iF (m_oneHolds (by rw [hTr.1]; exact hmn) hn hp hr hday (by omega) hoe hlt hcs) (by decide) ?_
          refine dI (pk_in st.length 64 (by omega)) (hgo _ _ _ _ (nI_succ _).symm ?_)
          rw [hci, nar_bi]
          exact ⟨pk_us, tru_upd (Nat.le_refl _) htr⟩
  have hf0 : m.2.1 4 0 ((25 : Int32) * nI p + nI r).toNatClampNeg = nI f := by rw [hic]; exact hsf
  have hto : m.2.1 5 0 ((25 : Int32) * nI p + nI r).toNatClampNeg = nI e := by rw [hic]; exact hst
  refine ctr_ev 80 [16] rfl rfl (dI hin ?_)
  by_cases hef : e = f
  · refine go_ev 80 [16] (dI hin (bT (c := m.2.1 5 0 ((25 : Int32) * nI p + nI r).toNatClampNeg ≤ m.2.1 4 0 ((25 : Int32) * nI p + nI r).toNatClampNeg) (by rw [hto, hf0, hef]; exact Int32.le_refl _) ?_))
    refine bT (c := (0 : Int32) = 0) rfl (And.intro rfl (qti (TrS_rfl m) ?_))
    rw [bi_t (Or.inl hef)]
  · exact key hef (e - f) f _ _ [] none m (by omega) hf0 rfl (TrS_rfl m) trivial (by decide) (hd.resolve_left hef) rfl
end MHO
end
section
/-! the model: how much -/
def bsV (p row kd k : Nat) : Option Nat := if k = 0 ∨ (k = 1 ∧ p = 0) then none else some (if kd = 2 then lstK p row k else mstK p row k)
theorem bsV_p {p row kd k : Nat} (h : k = p) : bsV p row kd (k + 1) = bsV p row kd k := by
  unfold bsV
  by_cases h0 : k = 0 ∨ (k = 1 ∧ p = 0)
  · rw [if_pos h0, if_pos (by omega)]
  · rw [if_neg h0, if_neg (by omega)]
    simp only [lstK, mstK, if_pos h]
theorem bsV_n {p row kd k : Nat} (h : ¬ k = p) (hn : bsV p row kd k = none) : bsV p row kd (k + 1) = some (dd row k) := by
  have hd := dd_lt row k
  unfold bsV at hn ⊢
  by_cases h0 : k = 0 ∨ (k = 1 ∧ p = 0)
  · rw [if_neg (by omega)]
    have e1 : lstK p row k = 3 ∧ mstK p row k = 0 := by
      rcases h0 with rfl | ⟨rfl, rfl⟩
      · exact ⟨rfl, rfl⟩
      · exact ⟨rfl, rfl⟩
    congr 1
    simp only [lstK, mstK, if_neg h, e1.1, e1.2]
    split <;> omega
  · rw [if_neg h0] at hn
    cases hn
theorem bsV_s {p row kd k v : Nat} (h : ¬ k = p) (hn : bsV p row kd k = some v) : bsV p row kd (k + 1) = some (if kd = 2 then min v (dd row k) else max v (dd row k)) ∧ v < 4 := by
  have hd := dd_lt row k
  have h1 := lstK_le p row k
  have h2 := mstK_le p row k
  unfold bsV at hn ⊢
  by_cases h0 : k = 0 ∨ (k = 1 ∧ p = 0)
  · rw [if_pos h0] at hn
    cases hn
  · rw [if_neg h0] at hn
    have hn := Option.some.inj hn
    rw [if_neg (by omega)]
    constructor
    · congr 1
      simp only [lstK, mstK, if_neg h]
      split
      · rename_i z
        rw [if_pos z] at hn
        rw [hn]
      · rename_i z
        rw [if_neg z] at hn
        rw [hn]
    · rw [← hn]
      split <;> omega
section MMU
variable {n p row : Nat} {c m : Sd}
theorem m_muchBy (hmn : m.1 0 0 0 = nI n) (hn : n ≤ 6) (hp : p < n) (hr : row < 4 ^ n) {r k o : Nat} (hr25 : r < 25) (hk4 : k < 4) (ho6 : o < 6) (hmk : m.2.1 2 0 (25 * p + r) = nI k) (hmo : m.2.1 3 0 (25 * p + r) = nI o) : Fn 1 124 [vR true 0 0, vI (nI p), vI (nI r), vI (nI row)] (c, m) (c, m) (some (vI (nI (muchV n p row k o)))) := by
  have hr6 := pow4_le hn
  have hix : (25 : Int32) * nI p + nI r = nI (25 * p + r) := by rw [show (25 : Int32) = nI 25 from rfl, pk_mul, nIadd]
  have hic := pk_cl (25 * p + r) hix
  have hin := pk_in (25 * p + r) 150 (by omega) hix
  have fk : m.2.1 2 0 ((25 : Int32) * nI p + nI r).toNatClampNeg = nI k := by rw [hic]; exact hmk
  have fo : m.2.1 3 0 ((25 : Int32) * nI p + nI r).toNatClampNeg = nI o := by rw [hic]; exact hmo
  have key : 2 ≤ k → ∀ (j q : Nat) (x b : Int32) (v8 v9 : Option PV), q + j = n → x = nI q → b = optI (bsV p row k q) → Go 1 124 none 72 [some (vR true 0 0), some (vI (nI p)), some (vI (nI r)), some (vI (nI row)), some (vI (m.2.1 2 0 ((25 : Int32) * nI p + nI r).toNatClampNeg)), some (vI (m.2.1 3 0 ((25 : Int32) * nI p + nI r).toNatClampNeg)), some (vI b), some (vI x), v8, v9] [] (c, m) (fun w' r' => w' = (c, m) ∧ r' = some (vI (nI (muchV n p row k o)))) := by
    intro h2 j
    induction j with
    | zero =>
      intro q x b v8 v9 hq hx hb
      have hq : q = n := by omega
      subst hq hx
      refine go_ev 60 [72] (bT (c := m.1 0 0 0 ≤ nI q) (by rw [hmn]; exact Int32.le_refl _) ?_)
      have hb1 := lstK_le p row q
      have hb2 := mstK_le p row q
      cases hv : bsV p row k q with
      | none =>
        rw [hv] at hb
        subst hb
        refine bF (c := (0 : Int32) ≤ -1) (by decide) (And.intro rfl ?_)
        unfold bsV at hv
        by_cases h0 : q = 0 ∨ (q = 1 ∧ p = 0)
        · obtain ⟨rfl, rfl⟩ : q = 1 ∧ p = 0 := by omega
          have : muchV 1 0 row k o = 0 := by
            unfold muchV
            rw [if_neg (by omega), if_neg (by omega)]
            split
            · rfl
            · rfl
          rw [this]
          rfl
        · rw [if_neg h0] at hv
          cases hv
      | some v =>
        rw [hv] at hb
        have hb : b = nI v := hb
        subst hb
        unfold bsV at hv
        by_cases h0 : q = 0 ∨ (q = 1 ∧ p = 0)
        · rw [if_pos h0] at hv
          cases hv
        · rw [if_neg h0] at hv
          have hv := Option.some.inj hv
          have hv4 : v < 4 := by
            rw [← hv]
            split <;> omega
          refine bT (c := (0 : Int32) ≤ nI v) (by rw [show (0 : Int32) = nI 0 from rfl, nIle (by decide) (by omega)]; omega) (And.intro rfl ?_)
          congr 3
          rw [← hv]
          unfold muchV
          rw [if_neg (show ¬ k = 0 by omega), if_neg (show ¬ k = 1 by omega), if_neg (show ¬ q ≤ 1 by omega)]
    | succ j ih =>
      intro q x b v8 v9 hq hx hb
      subst hx
      have hd := dd_lt row q
      refine go_ev 60 [72] (bF (c := m.1 0 0 0 ≤ nI q) (by rw [hmn, nIle (by omega) (by omega)]; omega) ?_)
      refine iF (m_deed _ (by omega) (by omega)) (by decide) ?_
      have same : ∀ (v8 v9 : Option PV), q = p → Go 1 124 none 72 [some (vR true 0 0), some (vI (nI p)), some (vI (nI r)), some (vI (nI row)), some (vI (m.2.1 2 0 ((25 : Int32) * nI p + nI r).toNatClampNeg)), some (vI (m.2.1 3 0 ((25 : Int32) * nI p + nI r).toNatClampNeg)), some (vI b), some (vI (nI q + 1)), v8, v9] [] (c, m) (fun w' r' => w' = (c, m) ∧ r' = some (vI (nI (muchV n p row k o)))) := fun v8 v9 hqp => ih (q + 1) _ _ v8 v9 (by omega) (nI_succ q).symm (by rw [bsV_p hqp]; exact hb)
      cases hv : bsV p row k q with
      | none =>
        rw [hv] at hb
        have hb' : b = -1 := hb
        refine bT (c := b < 0) (by rw [hb']; decide) ?_
        refine bI (c := nI q = nI p) (fun h => ?_) (fun h => ?_)
        · rw [nIeq (by omega) (by omega)] at h
          exact same _ _ h
        · rw [nIeq (by omega) (by omega)] at h
          refine bF (c := (1 : Int32) = 0) (by decide) ?_
          refine ih (q + 1) _ _ _ _ (by omega) (nI_succ q).symm ?_
          rw [bsV_n h hv]
          rfl
      | some v =>
        rw [hv] at hb
        have hb' : b = nI v := hb
        have hv4 : v < 4 := by
          unfold bsV at hv
          have hb1 := lstK_le p row q
          have hb2 := mstK_le p row q
          by_cases h0 : q = 0 ∨ (q = 1 ∧ p = 0)
          · rw [if_pos h0] at hv
            cases hv
          · rw [if_neg h0] at hv
            have hv := Option.some.inj hv
            rw [← hv]
            split <;> omega
        have worse : ∀ (v8 v9 : Option PV), ¬ q = p → v = (if k = 2 then min v (dd row q) else max v (dd row q)) → Go 1 124 none 72 [some (vR true 0 0), some (vI (nI p)), some (vI (nI r)), some (vI (nI row)), some (vI (m.2.1 2 0 ((25 : Int32) * nI p + nI r).toNatClampNeg)), some (vI (m.2.1 3 0 ((25 : Int32) * nI p + nI r).toNatClampNeg)), some (vI b), some (vI (nI q + 1)), v8, v9] [] (c, m) (fun w' r' => w' = (c, m) ∧ r' = some (vI (nI (muchV n p row k o)))) := fun v8 v9 hqp hm => ih (q + 1) _ _ v8 v9 (by omega) (nI_succ q).symm (by rw [(bsV_s hqp hv).1, ← hm]; exact hb)
        have bett : ∀ (v8 v9 : Option PV), ¬ q = p → dd row q = (if k = 2 then min v (dd row q) else max v (dd row q)) → Go 1 124 none 72 [some (vR true 0 0), some (vI (nI p)), some (vI (nI r)), some (vI (nI row)), some (vI (m.2.1 2 0 ((25 : Int32) * nI p + nI r).toNatClampNeg)), some (vI (m.2.1 3 0 ((25 : Int32) * nI p + nI r).toNatClampNeg)), some (vI (nI (dd row q))), some (vI (nI q + 1)), v8, v9] [] (c, m) (fun w' r' => w' = (c, m) ∧ r' = some (vI (nI (muchV n p row k o)))) := fun v8 v9 hqp hm => ih (q + 1) _ _ v8 v9 (by omega) (nI_succ q).symm (by rw [(bsV_s hqp hv).1, ← hm]; rfl)
        refine bF (c := b < 0) (by rw [hb']; exact nI_ge0 (by omega)) ?_
        refine bI (c := m.2.1 2 0 ((25 : Int32) * nI p + nI r).toNatClampNeg = 2) (fun h => ?_) (fun h => ?_)
        · rw [fk] at h
          have hk2 : k = 2 := (nIeq (by omega) (by decide)).mp h
          refine bI (c := b ≤ nI (dd row q)) (fun h3 => ?_) (fun h3 => ?_)
          · rw [hb', nIle (by omega) (by omega)] at h3
            refine bI (c := nI q = nI p) (fun h4 => ?_) (fun h4 => ?_)
            · rw [nIeq (by omega) (by omega)] at h4
              exact same _ _ h4
            · rw [nIeq (by omega) (by omega)] at h4
              exact bT (c := (0 : Int32) = 0) rfl (worse _ _ h4 (by rw [if_pos hk2]; omega))
          · rw [hb', nIle (by omega) (by omega)] at h3
            refine bI (c := nI q = nI p) (fun h4 => ?_) (fun h4 => ?_)
            · rw [nIeq (by omega) (by omega)] at h4
              exact same _ _ h4
            · rw [nIeq (by omega) (by omega)] at h4
              exact bF (c := (1 : Int32) = 0) (by decide) (bett _ _ h4 (by rw [if_pos hk2]; omega))
        · have hk2 : ¬ k = 2 := fun z => h (by rw [fk, z]; rfl)
          refine bI (c := nI (dd row q) ≤ b) (fun h3 => ?_) (fun h3 => ?_)
          · rw [hb', nIle (by omega) (by omega)] at h3
            refine bI (c := nI q = nI p) (fun h4 => ?_) (fun h4 => ?_)
            · rw [nIeq (by omega) (by omega)] at h4
              exact same _ _ h4
            · rw [nIeq (by omega) (by omega)] at h4
              exact bT (c := (0 : Int32) = 0) rfl (worse _ _ h4 (by rw [if_neg hk2]; omega))
          · rw [hb', nIle (by omega) (by omega)] at h3
            refine bI (c := nI q = nI p) (fun h4 => ?_) (fun h4 => ?_)
            · rw [nIeq (by omega) (by omega)] at h4
              exact same _ _ h4
            · rw [nIeq (by omega) (by omega)] at h4
              exact bF (c := (1 : Int32) = 0) (by decide) (bett _ _ h4 (by rw [if_neg hk2]; omega))
  refine ctr_ev 60 [72] rfl rfl (dI hin (dI hin ?_))
  refine bI (c := m.2.1 2 0 ((25 : Int32) * nI p + nI r).toNatClampNeg = 0) (fun h => ?_) (fun h => bI (c := m.2.1 2 0 ((25 : Int32) * nI p + nI r).toNatClampNeg = 1) (fun h1 => ?_) (fun h1 => ?_))
  · rw [fk] at h
    have h : k = 0 := (nIeq (by omega) (by decide)).mp h
    subst h
    exact And.intro rfl (congrArg (fun x => some (vI x)) fo)
  · rw [fk] at h1
    have h1 : k = 1 := (nIeq (by omega) (by decide)).mp h1
    subst h1
    have hm1 : muchV n p row 1 o = if o = p ∨ n ≤ o then 0 else dd row o := rfl
    rw [hm1]
    refine bI (c := m.2.1 3 0 ((25 : Int32) * nI p + nI r).toNatClampNeg = nI p) (fun h2 => ?_) (fun h2 => bI (c := m.2.1 3 0 ((25 : Int32) * nI p + nI r).toNatClampNeg < m.1 0 0 0) (fun h3 => ?_) (fun h3 => ?_))
    · rw [fo, nIeq (by omega) (by omega)] at h2
      rw [if_pos (Or.inl h2)]
      exact And.intro rfl rfl
    · rw [fo, nIeq (by omega) (by omega)] at h2
      rw [fo, hmn, nIlt (by omega) (by omega)] at h3
      have hD : Fn 0 121 [vI (nI row), vI (m.2.1 3 0 ((25 : Int32) * nI p + nI r).toNatClampNeg)] (c, m) (c, m) (some (vI (nI (dd row o)))) := by
        rw [fo]
        exact m_deed _ (by omega) (by omega)
      rw [if_neg (show ¬ (o = p ∨ n ≤ o) by omega)]
      exact iF hD (by decide) (And.intro rfl rfl)
    · rw [fo, hmn, nIlt (by omega) (by omega)] at h3
      rw [if_pos (Or.inr (show n ≤ o by omega))]
      exact And.intro rfl rfl
  · have a0 : ¬ k = 0 := fun z => h (by rw [fk, z]; rfl)
    have a1 : ¬ k = 1 := fun z => h1 (by rw [fk, z]; rfl)
    exact key (by omega) n 0 0 (-1) none none (by omega) rfl rfl
end MMU
end
section
/-! the model: what a term lets -/
def mRul (m : Sd) (p : Nat) : List (Nat × Nat × Nat) → Nat → Nat → Prop
  | [], _, _ => True
  | (k, o, e) :: R, r, f => (m.2.1 2 0 (25 * p + r) = nI k ∧ m.2.1 3 0 (25 * p + r) = nI o ∧ m.2.1 4 0 (25 * p + r) = nI f ∧ m.2.1 5 0 (25 * p + r) = nI e) ∧ mRul m p R (r + 1) e
theorem mRul_trs {m m' : Sd} {p : Nat} (h : TrS m m') : ∀ {R : List (Nat × Nat × Nat)} {r f : Nat}, mRul m p R r f → mRul m' p R r f
  | [], _, _, _ => trivial
  | (k, o, e) :: R, r, f, hR => by
    obtain ⟨h1, h2⟩ := hR
    refine ⟨?_, mRul_trs h h2⟩
    rw [h.2.1 2 0 (by decide), h.2.1 3 0 (by decide), h.2.1 4 0 (by decide), h.2.1 5 0 (by decide)]
    exact h1
def MT (m : Sd) (p : Nat) (T : Trm) : Prop := m.2.1 1 0 p = nI T.1.length ∧ mRul m p T.1 0 0 ∧ mStps m p T.2
theorem MT_trs {m m' : Sd} {p : Nat} {T : Trm} (h : TrS m m') (hT : MT m p T) : MT m' p T := ⟨by rw [h.2.1 1 0 (by decide)]; exact hT.1, mRul_trs h hT.2.1, mStps_trs h hT.2.2⟩
theorem TrS_tr {a b c : Sd} (h : TrS a b) (h2 : TrS b c) : TrS a c := ⟨h2.1.trans h.1, fun k i hk => (h2.2.1 k i hk).trans (h.2.1 k i hk), h2.2.2.trans h.2.2⟩
section MLE
variable {n p row day : Nat} {c m : Sd} {T : Trm}
theorem m_letBy {Q : Wd → Option PV → Prop} {tl : Option Nat} {wd : Nat} (hQ : ∀ w' r', QT m c (nI (if tl = some p then wd else letT n p row day T)) w' r' → Q w' r') (hmn : m.1 0 0 0 = nI n) (hn : n ≤ 6) (hp : p < n) (hr : row < 4 ^ n) (hday : day ≤ 9) (htl : m.1 0 0 35 = optI tl) (htq : ∀ q, tl = some q → q < 2 ^ 31) (hwd : m.1 0 0 36 = nI wd) (hT : MT m p T) (hok : okT T) : Ctr 3 125 [vR true 0 0, vI (nI p), vI (nI row), vI (nI day)] (c, m) Q := by
  have h25 := hok.1
  have h40 := hok.2.1
  have key : ¬ tl = some p → ∀ (j r f : Nat) (x : Int32) (m' : Sd), r + j = T.1.length → x = nI r → TrS m m' → okR T.2 (T.1.drop r) f → mRul m' p (T.1.drop r) r f → letT n p row day T = letR n p row day T.2 (T.1.drop r) f → Go 3 125 none 16 [some (vR true 0 0), some (vI (nI p)), some (vI (nI row)), some (vI (nI day)), some (vI x)] [] (c, m') (QT m c (nI (if tl = some p then wd else letT n p row day T))) := by
    intro hnt j
    rw [if_neg hnt]
    induction j with
    | zero =>
      intro r f x m' hj hx hTr hR hM hl
      have hT' := MT_trs hTr hT
      have hrl : m'.2.1 1 0 (nI p).toNatClampNeg = nI T.1.length := by rw [pk_cl p]; exact hT'.1
      refine go_ev 60 [16] (dI (pk_in p 6 (by omega)) (bT (c := m'.2.1 1 0 (nI p).toNatClampNeg ≤ x) (by rw [hrl, hx, nIle (by omega) (by omega)]; omega) (qti hTr ?_)))
      rw [hl, List.drop_eq_nil_of_le (by omega)]
      rfl
    | succ j ih =>
      intro r f x m' hj hx hTr hR hM hl
      subst hx
      have hT' := MT_trs hTr hT
      have hrl : m'.2.1 1 0 (nI p).toNatClampNeg = nI T.1.length := by rw [pk_cl p]; exact hT'.1
      have hr1 : r < T.1.length := by omega
      obtain ⟨⟨k, o, e⟩, ha⟩ : ∃ a, T.1[r]? = some a := ⟨_, List.getElem?_eq_getElem hr1⟩
      have hdr : T.1.drop r = (k, o, e) :: T.1.drop (r + 1) := by
        obtain ⟨h1, h2⟩ := List.getElem?_eq_some_iff.mp ha
        rw [List.drop_eq_getElem_cons h1, h2]
      rw [hdr] at hR hl hM
      obtain ⟨⟨hk4, ho6, -⟩, ⟨hfe, hes⟩, hdp, hR'⟩ := hR
      obtain ⟨⟨q1, q2, q3, q4⟩, hM'⟩ := hM
      refine go_ev 60 [16] (dI (pk_in p 6 (by omega)) (bF (c := m'.2.1 1 0 (nI p).toNatClampNeg ≤ nI r) (by rw [hrl, nIle (by omega) (by omega)]; omega) ?_))
      refine iC (m_holds (by rw [hTr.1]; exact hmn) hn hp hr hday hok.2.2.1 (by omega) hT'.2.2 (by omega) q3 q4 hfe hes hdp) (by decide) ?_
      rintro _ _ ⟨m2, rfl, hTr2, rfl⟩
      have hTr3 := TrS_tr hTr hTr2
      refine bI (fun h2 => ?_) (fun h2 => ?_)
      · rw [bi_0] at h2
        refine ih (r + 1) e _ m2 (by omega) (nI_succ r).symm hTr3 hR' (mRul_trs hTr2 hM') ?_
        rw [hl]
        conv => lhs; unfold letR
        rw [if_neg h2]
      · rw [bi_0, Classical.not_not] at h2
        refine iF (m_muchBy (by rw [hTr3.1]; exact hmn) hn hp hr (by omega) hk4 ho6 (by rw [hTr2.2.1 2 0 (by decide)]; exact q1) (by rw [hTr2.2.1 3 0 (by decide)]; exact q2)) (by decide) (qti hTr3 ?_)
        rw [hl]
        unfold letR
        rw [if_pos h2]
  refine ctr_of (nblt rfl) (Nat.le_of_ble_eq_true rfl) (Go_mono (Q := QT m c (nI (if tl = some p then wd else letT n p row day T))) (go_ev 60 [16] ?_) hQ)
  refine bI (c := nI p = m.1 0 0 35) (fun h => ?_) (fun h => ?_)
  · rw [htl, optI_eq htq (by omega)] at h
    refine qti (TrS_rfl m) ?_
    rw [if_pos h]
    exact hwd
  · rw [htl, optI_eq htq (by omega)] at h
    exact key h T.1.length 0 0 0 m (by omega) rfl (TrS_rfl m) hok.2.2.2 hT.2.1 rfl
end MLE
end
section
/-! the model's village, for the calls above -/
theorem mStps_fr {m m' : Sd} {p : Nat} {S : List StpT} (h37 : m'.1 0 0 37 = m.1 0 0 37) (hA : ∀ k, k ≤ 39 → m'.2.1 k 0 = m.2.1 k 0) (hS : mStps m p S) : mStps m' p S := by
  intro s e he
  have := hS s e he
  unfold mStp effM effG at this ⊢
  rw [h37, hA 6 (by decide), hA 7 (by decide), hA 8 (by decide), hA 9 (by decide), hA 10 (by decide), hA 38 (by decide), hA 39 (by decide)]
  exact this
theorem mRul_fr {m m' : Sd} {p : Nat} (hA : ∀ k, k ≤ 39 → m'.2.1 k 0 = m.2.1 k 0) : ∀ {R : List (Nat × Nat × Nat)} {r f : Nat}, mRul m p R r f → mRul m' p R r f
  | [], _, _, _ => trivial
  | (k, o, e) :: R, r, f, hR => by
    obtain ⟨h1, h2⟩ := hR
    refine ⟨?_, mRul_fr hA h2⟩
    rw [hA 2 (by decide), hA 3 (by decide), hA 4 (by decide), hA 5 (by decide)]
    exact h1
theorem MT_fr {m m' : Sd} {p : Nat} {T : Trm} (h37 : m'.1 0 0 37 = m.1 0 0 37) (hA : ∀ k, k ≤ 39 → m'.2.1 k 0 = m.2.1 k 0) (hT : MT m p T) : MT m' p T := ⟨by rw [hA 1 (by decide)]; exact hT.1, mRul_fr hA hT.2.1, mStps_fr h37 hA hT.2.2⟩
def MV (n : Nat) (Ts : Nat → Trm) (Y : Sd → Prop) (tl : Option Nat) (wd : Nat) (m : Sd) : Prop := (m.1 0 0 0 = nI n ∧ m.1 0 0 35 = optI tl ∧ (∀ q, tl = some q → q < 6) ∧ m.1 0 0 36 = nI wd ∧ m.1 0 0 37 = -1) ∧ (∀ p, p < 6 → MT m p (Ts p)) ∧ Y m
def YC (Y : Sd → Prop) : Prop := (∀ m m', TrS m m' → Y m → Y m') ∧ (∀ m f x, (f = 35 ∨ f = 36 ∨ (44 ≤ f ∧ f ≤ 46)) → Y m → Y (up3 m.1 0 0 f x, m.2.1, m.2.2)) ∧ ∀ m j x, Y m → Y (m.1, upA m.2.1 43 0 j x, m.2.2)
section MVI
variable {n : Nat} {Ts : Nat → Trm} {Y : Sd → Prop}
theorem MV_trs {m m' : Sd} {tl : Option Nat} {wd : Nat} (hY : ∀ m m', TrS m m' → Y m → Y m') (h : TrS m m') (hV : MV n Ts Y tl wd m) : MV n Ts Y tl wd m' := by
  obtain ⟨h1, h2, h3⟩ := hV
  refine ⟨?_, fun p hp => MT_trs h (h2 p hp), hY _ _ h h3⟩
  rw [h.1]
  exact h1
theorem MV_MH {I : Sd → Prop} {tl : Option Nat} {wd : Nat} (h1 : 1 ≤ n) (h6 : n ≤ 6) (hok : ∀ p, okT (Ts p)) (hw : tl ≠ none → wd < 4) (hY : ∀ m m', TrS m m' → Y m → Y m') (hI : ∀ m, I m ↔ MV n Ts Y tl wd m) : MH n (lw (lV n Ts) tl wd) I := by
  refine ⟨⟨h1, h6⟩, fun p row day => ?_, fun m hm => ((hI m).mp hm).1.1, fun c m hm p row day hp hr hd1 hd9 => ?_⟩
  · unfold lw
    split
    · rename_i z
      exact hw (by rw [z]; simp)
    · exact letT_lt (hok p)
  · have hV := (hI m).mp hm
    obtain ⟨⟨a1, a2, a3, a4, -⟩, a5, -⟩ := id hV
    refine m_letBy (tl := tl) (wd := wd) (T := Ts p) (fun w' r' h => ?_) a1 h6 hp hr hd9 a2 (fun q hq => by
      have := a3 q hq
      omega) a4 (a5 p (by omega)) (hok p)
    obtain ⟨m', e1, e2, e3⟩ := h
    exact ⟨m', e1, (hI _).mpr (MV_trs hY e2 hV), e3⟩
theorem MV_fld {m : Sd} {tl : Option Nat} {wd : Nat} (hY : YC Y) {f : Nat} {x : Int32} (hf : 44 ≤ f ∧ f ≤ 46) (hV : MV n Ts Y tl wd m) : MV n Ts Y tl wd (up3 m.1 0 0 f x, m.2.1, m.2.2) := by
  obtain ⟨⟨a1, a2, a3, a4, a5⟩, h2, h3⟩ := hV
  have e : ∀ g, g < 44 → up3 m.1 0 0 f x 0 0 g = m.1 0 0 g := fun g hg => up3_n _ _ (fun z => by omega)
  exact ⟨⟨(e 0 (by decide)).trans a1, (e 35 (by decide)).trans a2, a3, (e 36 (by decide)).trans a4, (e 37 (by decide)).trans a5⟩, fun p hp => MT_fr (e 37 (by decide)) (fun _ _ => rfl) (h2 p hp), hY.2.1 m f x (Or.inr (Or.inr hf)) h3⟩
theorem MV_arr {m : Sd} {tl : Option Nat} {wd : Nat} (hY : YC Y) {j : Nat} {x : Int32} (hV : MV n Ts Y tl wd m) : MV n Ts Y tl wd (m.1, upA m.2.1 43 0 j x, m.2.2) := by
  obtain ⟨h1, h2, h3⟩ := hV
  exact ⟨h1, fun p hp => MT_fr (m := m) rfl (fun k hk => upA_n _ _ (fun z => by omega)) (h2 p hp), hY.2.2 m j x h3⟩
theorem MV_MK {tl : Option Nat} {wd : Nat} (h1 : 1 ≤ n) (h6 : n ≤ 6) (hok : ∀ p, okT (Ts p)) (hw : tl ≠ none → wd < 4) (hY : YC Y) : MK n (lw (lV n Ts) tl wd) (MV n Ts Y tl wd) := by
  refine ⟨fun g a => ?_, fun c m f x hf1 hf2 hm => MV_fld hY ⟨hf1, hf2⟩ hm, fun c m j x hm => MV_arr hY hm⟩
  refine MV_MH (Y := fun m => Y m ∧ (∀ f, 44 ≤ f → f ≤ 46 → m.1 0 0 f = g f) ∧ m.2.1 43 0 = a) h1 h6 hok hw (fun m m' h hm => ⟨hY.1 m m' h hm.1, fun f h1 h2 => by rw [h.1]; exact hm.2.1 f h1 h2, by rw [h.2.1 43 0 (by decide)]; exact hm.2.2⟩) (fun m => ?_)
  unfold MS MV
  constructor
  · rintro ⟨⟨q1, q2, q3⟩, q4⟩
    exact ⟨q1, q2, q3, q4⟩
  · rintro ⟨q1, q2, q3, q4⟩
    exact ⟨⟨q1, q2, q3⟩, q4⟩
theorem MV_MW (h1 : 1 ≤ n) (h6 : n ≤ 6) (hok : ∀ p, okT (Ts p)) (hY : YC Y) : MW n (lV n Ts) (MV n Ts Y) := by
  refine ⟨⟨h1, h6⟩, fun p row day => letT_lt (hok p), fun tl wd hw => MV_MK h1 h6 hok hw hY, fun c m tl wd tl' hq hV => ?_, fun c m tl wd wd' hV => ?_⟩
  · obtain ⟨⟨a1, a2, a3, a4, a5⟩, h2, h3⟩ := hV
    exact ⟨⟨a1, rfl, hq, a4, a5⟩, fun p hp => MT_fr (m := m) rfl (fun _ _ => rfl) (h2 p hp), hY.2.1 m 35 _ (Or.inl rfl) h3⟩
  · obtain ⟨⟨a1, a2, a3, a4, a5⟩, h2, h3⟩ := hV
    exact ⟨⟨a1, a2, a3, rfl, a5⟩, fun p hp => MT_fr (m := m) rfl (fun _ _ => rfl) (h2 p hp), hY.2.1 m 36 _ (Or.inr (Or.inl rfl)) h3⟩
end MVI
end
section
/-! softer words: which numbers can be softened, and what a softer term lets -/
abbrev Slt : Type := Nat × Bool
def sloE (s : Nat) (e : StpT) : List Slt := (if 2 ≤ e.1 ∧ e.1 ≤ 4 then [(s, false)] else []) ++ (if e.2.2.2.2.2 = true ∧ e.1 ≤ 2 then [(s, true)] else [])
def sloF : List StpT → Nat → List Slt
  | [], _ => []
  | e :: es, s => sloE s e ++ sloF es (s + 1)
def slo (S : List StpT) : List Slt := sloF S 0
def decE (g : Bool) (e : StpT) : StpT := (e.1, e.2.1, e.2.2.1, (if g = true then e.2.2.2.1 else e.2.2.2.1 - 1), (if g = true then e.2.2.2.2.1 - 1 else e.2.2.2.2.1), e.2.2.2.2.2)
def decS (S : List StpT) (sl : Slt) : List StpT := match S[sl.1]? with
  | some e => S.set sl.1 (decE sl.2 e)
  | none => S
def valE (g : Bool) (e : StpT) : Nat := if g = true then e.2.2.2.2.1 else e.2.2.2.1
def lstE (g : Bool) (e : StpT) : Nat := if g = true then 0 else if e.1 = 4 then 1 else 0
def mayS (S : List StpT) (sl : Slt) : Bool := match S[sl.1]? with
  | some e => decide (lstE sl.2 e < valE sl.2 e)
  | none => false
def sfL (g : List Slt → List StpT → Bool) : List Slt → List StpT → Bool
  | [], _ => false
  | sl :: sls, S => (mayS S sl && g (sl :: sls) (decS S sl)) || sfL g sls S
def sfF (chk : List StpT → Bool) : Nat → List Slt → List StpT → Bool
  | 0, _, S => chk S
  | k + 1, L, S => sfL (sfF chk k) L S
def chS (n p row : Nat) (R : List (Nat × Nat × Nat)) (S : List StpT) : Bool := decide (letT n p row 9 (R, S) = dd row p)
def sfN (n p row : Nat) (T : Trm) : Option Nat := fst (fun k => sfF (chS n p row T.1) k (slo T.2) T.2) 4 0
/-- a place that is one: a slot of a list of steps -/
def okSl (S : List StpT) (sl : Slt) : Prop := ∃ e, S[sl.1]? = some e ∧ e.1 < 5 ∧ (sl.2 = false → 2 ≤ e.1)
theorem sloF_ok : ∀ (S : List StpT) (s : Nat) (A : List StpT), A.length = s → ∀ sl ∈ sloF S s, okSl (A ++ S) sl
  | [], _, _, _ => fun _ h => absurd h (List.not_mem_nil)
  | e :: es, s, A, hA => by
    intro sl h
    rcases List.mem_append.mp h with h | h
    · have hg : ∀ g, (A ++ e :: es)[((s, g) : Slt).1]? = some e := fun g => by
        show (A ++ e :: es)[s]? = some e
        rw [← hA, List.getElem?_append_right (Nat.le_refl _), Nat.sub_self]
        rfl
      rcases List.mem_append.mp h with h | h
      · split at h
        · rename_i hk
          rw [List.mem_singleton] at h
          subst h
          exact ⟨e, hg false, by omega, fun _ => hk.1⟩
        · exact absurd h List.not_mem_nil
      · split at h
        · rename_i hk
          rw [List.mem_singleton] at h
          subst h
          exact ⟨e, hg true, by omega, fun z => by cases z⟩
        · exact absurd h List.not_mem_nil
    · have := sloF_ok es (s + 1) (A ++ [e]) (by rw [List.length_append, hA]; rfl) sl h
      rw [List.append_assoc] at this
      exact this
theorem slo_ok (S : List StpT) : ∀ sl ∈ slo S, okSl S sl := sloF_ok S 0 [] rfl
theorem sloE_len (s : Nat) (e : StpT) : (sloE s e).length ≤ 2 := by
  unfold sloE
  rw [List.length_append]
  split <;> split <;> simp
theorem sloF_len : ∀ (S : List StpT) (s : Nat), (sloF S s).length ≤ 2 * S.length
  | [], _ => Nat.le_refl _
  | e :: es, s => by
    have h1 := sloE_len s e
    have h2 := sloF_len es (s + 1)
    simp only [sloF, List.length_append, List.length_cons]
    omega
theorem decS_get (S : List StpT) (sl : Slt) (i : Nat) : (decS S sl)[i]? = if i = sl.1 then (S[i]?).map (decE sl.2) else S[i]? := by
  unfold decS
  cases h : S[sl.1]? with
  | none =>
    show S[i]? = _
    by_cases hi : i = sl.1
    · rw [if_pos hi, hi, h]
      rfl
    · rw [if_neg hi]
  | some e =>
    show (S.set sl.1 (decE sl.2 e))[i]? = _
    obtain ⟨h1, h2⟩ := List.getElem?_eq_some_iff.mp h
    by_cases hi : i = sl.1
    · rw [if_pos hi, hi, h, List.getElem?_set_self h1]
      rfl
    · rw [if_neg hi, List.getElem?_set_ne (fun z => hi z.symm)]
theorem decS_kinds (S : List StpT) (sl : Slt) : (decS S sl).map (fun e => e.1) = S.map (fun e => e.1) := by
  apply List.ext_getElem?
  intro i
  rw [List.getElem?_map, List.getElem?_map, decS_get]
  split
  · cases S[i]? <;> rfl
  · rfl
theorem decS_len (S : List StpT) (sl : Slt) : (decS S sl).length = S.length := by
  have := congrArg List.length (decS_kinds S sl)
  rw [List.length_map, List.length_map] at this
  exact this
theorem dpS_kinds : ∀ (A B : List StpT) (d : Nat), A.map (fun e => e.1) = B.map (fun e => e.1) → dpS A d = dpS B d
  | [], [], _, _ => rfl
  | [], _ :: _, _, h => by simp at h
  | _ :: _, [], _, h => by simp at h
  | a :: A, b :: B, d, h => by
    rw [List.map_cons, List.map_cons, List.cons.injEq] at h
    have hd : dpO a d = dpO b d := by
      unfold dpO
      rw [h.1]
    show (match dpO a d with
      | none => none
      | some d' => dpS A d') = match dpO b d with
      | none => none
      | some d' => dpS B d'
    rw [hd]
    cases dpO b d with
    | none => rfl
    | some d' => exact dpS_kinds A B d' h.2
theorem seg_kinds {A B : List StpT} (h : A.map (fun e => e.1) = B.map (fun e => e.1)) (f e : Nat) : (seg A f e).map (fun e => e.1) = (seg B f e).map (fun e => e.1) := by
  unfold seg
  rw [List.map_take, List.map_take, List.map_drop, List.map_drop, h]
theorem okR_kinds {A B : List StpT} (h : A.map (fun e => e.1) = B.map (fun e => e.1)) : ∀ (R : List (Nat × Nat × Nat)) (f : Nat), okR A R f → okR B R f
  | [], _, _ => trivial
  | (k, o, e) :: R, f, hR => by
    obtain ⟨h1, h2, h3, h4⟩ := hR
    have hl : A.length = B.length := by
      have := congrArg List.length h
      rw [List.length_map, List.length_map] at this
      exact this
    refine ⟨h1, by rw [← hl]; exact h2, ?_, okR_kinds h R e h4⟩
    rw [← dpS_kinds _ _ 0 (seg_kinds h f e)]
    exact h3
theorem okE_dec {g : Bool} {e : StpT} (h : okE e) : okE (decE g e) := by
  obtain ⟨h1, h2, h3, h4, h5⟩ := h
  refine ⟨h1, h2, h3, ?_, ?_⟩
  · show (if g = true then e.2.2.2.1 else e.2.2.2.1 - 1) < 100
    split <;> omega
  · show (if g = true then e.2.2.2.2.1 - 1 else e.2.2.2.2.1) < 100
    split <;> omega
theorem okT_dec {R : List (Nat × Nat × Nat)} {S : List StpT} (sl : Slt) (h : okT (R, S)) : okT (R, decS S sl) := by
  obtain ⟨h1, h2, h3, h4⟩ := h
  refine ⟨h1, by rw [decS_len]; exact h2, fun e he => ?_, okR_kinds (decS_kinds S sl).symm _ _ h4⟩
  obtain ⟨i, hi⟩ := List.mem_iff_getElem?.mp he
  have hi : (decS S sl)[i]? = some e := hi
  rw [decS_get] at hi
  split at hi
  · cases hq : S[i]? with
    | none =>
      rw [hq] at hi
      cases hi
    | some x =>
      rw [hq] at hi
      cases hi
      exact okE_dec (h3 x (List.mem_of_getElem? hq))
  · exact h3 e (List.mem_of_getElem? hi)
theorem okSl_dec {S : List StpT} {sl sl' : Slt} (h : okSl S sl') : okSl (decS S sl) sl' := by
  obtain ⟨e, h1, h2, h3⟩ := h
  by_cases hi : sl'.1 = sl.1
  · refine ⟨decE sl.2 e, ?_, h2, h3⟩
    rw [decS_get, if_pos hi, h1]
    rfl
  · refine ⟨e, ?_, h2, h3⟩
    rw [decS_get, if_neg hi]
    exact h1
theorem upA_back {g : Nat → Nat → Nat → Int32} {k i j : Nat} {v : Int32} {x : Int32} (h : x = g k i j) : upA (upA g k i j v) k i j x = g := by
  funext k' i' j'
  by_cases hk : k' = k ∧ i' = i
  · obtain ⟨rfl, rfl⟩ := hk
    rw [upA_s, upA_s]
    by_cases hj : j' = j
    · rw [hj, pk_us, h]
    · rw [pk_un hj, pk_un hj]
  · rw [upA_n _ _ hk, upA_n _ _ hk]
/-! the class -/
def CSl (c : Sd) (t : Nat) (L : List Slt) : Prop := c.1 11 t 10 = nI L.length ∧ ∀ k sl, L[k]? = some sl → c.2.1 22 t k = nI (2 * sl.1 + sl.2.toNat)
theorem cStp_val {c : Sd} {t : Nat} {T : Trm} {sl : Slt} {e : StpT} (hT : CT c t T) (he : T.2[sl.1]? = some e) (h5 : e.1 < 5) : c.2.1 18 t (2 * sl.1 + sl.2.toNat) = nI (valE sl.2 e) := by
  obtain ⟨s, g⟩ := sl
  obtain ⟨-, h2⟩ := hT.2.2.2 s e he
  obtain ⟨-, -, h3, h4⟩ := h2 h5
  cases g
  · exact h3
  · exact h4
theorem CT_dec {c : Sd} {t : Nat} {R : List (Nat × Nat × Nat)} {S : List StpT} {sl : Slt} {e : StpT} (hT : CT c t (R, S)) (he : S[sl.1]? = some e) (h5 : e.1 < 5) {v : Int32} (hv : v = nI (valE sl.2 e - 1)) : CT (c.1, upA c.2.1 18 t (2 * sl.1 + sl.2.toNat) v, c.2.2) t (R, decS S sl) := by
  obtain ⟨s, g⟩ := sl
  have hg : g.toNat < 2 := Bool.toNat_lt g
  have ho : ∀ k, k ≠ 18 → upA c.2.1 18 t (2 * s + g.toNat) v k t = c.2.1 k t := fun k hk => upA_n _ _ (fun z => hk z.1)
  refine ⟨hT.1, ?_, fun r k hr => ?_, fun i x hx => ?_⟩
  · show c.1 11 t 8 = nI (decS S (s, g)).length
    rw [decS_len]
    exact hT.2.1
  · have := hT.2.2.1 r k hr
    unfold cRul at this ⊢
    show upA c.2.1 18 t (2 * s + g.toNat) v 12 t r = _ ∧ upA c.2.1 18 t (2 * s + g.toNat) v 13 t r = _ ∧ upA c.2.1 18 t (2 * s + g.toNat) v 14 t r = _
    rw [ho 12 (by decide), ho 13 (by decide), ho 14 (by decide)]
    exact this
  · have hx : (decS S (s, g))[i]? = some x := hx
    rw [decS_get] at hx
    show upA c.2.1 18 t (2 * s + g.toNat) v 15 t i = _ ∧ (x.1 < 5 → upA c.2.1 18 t (2 * s + g.toNat) v 16 t i = _ ∧ upA c.2.1 18 t (2 * s + g.toNat) v 17 t i = _ ∧ upA c.2.1 18 t (2 * s + g.toNat) v 18 t (2 * i) = _ ∧ upA c.2.1 18 t (2 * s + g.toNat) v 18 t (2 * i + 1) = _)
    rw [ho 15 (by decide), ho 16 (by decide), ho 17 (by decide), upA_s]
    split at hx
    · rename_i hi
      have hi : i = s := hi
      subst hi
      have he : S[i]? = some e := he
      rw [he] at hx
      cases hx
      obtain ⟨q1, q2⟩ := hT.2.2.2 i e he
      refine ⟨q1, fun z => ?_⟩
      obtain ⟨q3, q4, q5, q6⟩ := q2 z
      refine ⟨q3, q4, ?_, ?_⟩
      · cases g
        · exact (show upd (c.2.1 18 t) (2 * i) v (2 * i) = nI (e.2.2.2.1 - 1) from by rw [pk_us, hv]; rfl)
        · exact (show upd (c.2.1 18 t) (2 * i + 1) v (2 * i) = nI e.2.2.2.1 from by rw [pk_un (by omega), q5])
      · cases g
        · exact (show upd (c.2.1 18 t) (2 * i) v (2 * i + 1) = nI e.2.2.2.2.1 from by rw [pk_un (by omega), q6])
        · exact (show upd (c.2.1 18 t) (2 * i + 1) v (2 * i + 1) = nI (e.2.2.2.2.1 - 1) from by rw [pk_us, hv]; rfl)
    · rename_i hi
      have hi : ¬ i = s := hi
      obtain ⟨q1, q2⟩ := hT.2.2.2 i x hx
      refine ⟨q1, fun z => ?_⟩
      obtain ⟨q3, q4, q5, q6⟩ := q2 z
      exact ⟨q3, q4, by rw [pk_un (by omega)]; exact q5, by rw [pk_un (by omega)]; exact q6⟩
section SFC
variable {n p row t : Nat} {c m : Sd} {R : List (Nat × Nat × Nat)} {S : List StpT} {L : List Slt}
theorem c_leastAt {T : Trm} (hT : CT c t T) (hok : okT T) {sl : Slt} {e : StpT} (he : T.2[sl.1]? = some e) (h5 : e.1 < 5) : Fn 0 44 [vR false 11 t, vI (nI (2 * sl.1 + sl.2.toNat))] (c, m) (c, m) (some (vI (nI (lstE sl.2 e)))) := by
  obtain ⟨s, g⟩ := sl
  have h40 := hok.2.1
  have hs : s < T.2.length := (List.getElem?_eq_some_iff.mp he).1
  have hg : g.toNat < 2 := Bool.toNat_lt g
  have hrem := pk_rem (a := 2 * s + g.toNat) (d := 2) (by omega) (by decide) (by decide)
  have hdiv := pk_div (a := 2 * s + g.toNat) (d := 2) (by omega) (by decide) (by decide)
  rw [show (2 * s + g.toNat) / 2 = s by omega] at hdiv
  rw [show (2 * s + g.toNat) % 2 = g.toNat by omega] at hrem
  have hkd : c.2.1 15 t (nI (2 * s + g.toNat) / 2).toNatClampNeg = nI (e.1 + 3) := by
    rw [show (2 : Int32) = nI 2 from rfl, hdiv, pk_cl s, (hT.2.2.2 s e he).1]
    unfold kcd
    rw [if_pos h5]
  refine ctr_ev 100 [] rfl rfl (And.intro (by decide) ?_)
  refine bI (c := nI (2 * s + g.toNat) - nI (2 * s + g.toNat) / 2 * 2 = 0) (fun h => ?_) (fun h => ?_)
  · rw [show (2 : Int32) = nI 2 from rfl, hrem, show (0 : Int32) = nI 0 from rfl, nIeq (by omega) (by decide)] at h
    have hg0 : g = false := by cases g <;> simp at h ⊢
    subst hg0
    refine And.intro (by decide) (dI (pk_in s 40 (by omega) hdiv) ?_)
    refine bI (c := c.2.1 15 t (nI (2 * s + false.toNat) / 2).toNatClampNeg = 7) (fun h2 => ?_) (fun h2 => ?_)
    · rw [hkd, show (7 : Int32) = nI 7 from rfl, nIeq (by omega) (by decide)] at h2
      refine And.intro rfl ?_
      show _ = some (vI (nI (if e.1 = 4 then 1 else 0)))
      rw [if_pos (by omega)]
      rfl
    · rw [hkd, show (7 : Int32) = nI 7 from rfl, nIeq (by omega) (by decide)] at h2
      refine And.intro rfl ?_
      show _ = some (vI (nI (if e.1 = 4 then 1 else 0)))
      rw [if_neg (by omega)]
      rfl
  · rw [show (2 : Int32) = nI 2 from rfl, hrem, show (0 : Int32) = nI 0 from rfl, nIeq (by omega) (by decide)] at h
    have hg0 : g = true := by cases g <;> simp at h ⊢
    subst hg0
    exact And.intro rfl rfl
theorem c_softens (hn : n ≤ 6) (hp : p < n) (hr : row < 4 ^ n) (hL80 : L.length ≤ 80) : ∀ (ones : Nat), ones ≤ 3 → ∀ (S : List StpT) (c : Sd) (k : Nat), Scn c n p row 9 → CT c t (R, S) → okT (R, S) → CSl c t L → (∀ sl ∈ L, okSl S sl) → k ≤ L.length → Fn (3 + ones) 43 [vR false 11 t, vI (nI ones), vI (nI k), vI (nI (dd row p)), vR false 19 0] (c, m) (c, m) (some (vI (bi (sfF (chS n p row R) ones (L.drop k) S = true)))) := by
  intro ones
  induction ones with
  | zero =>
    intro _ S c k hs hT hok hL hSl hk
    have hlt := letT_lt (n := n) (p := p) (row := row) (day := 9) hok
    have hdl := dd_lt row p
    refine ctr_ev 100 [] rfl rfl (bF (c := (0 : Int32) < nI 0) (by decide) ?_)
    refine iF (c_tAllowed hs hn hp hr (by decide) hT hok) (by decide) (bI (fun h => ?_) (fun h => ?_))
    · rw [nIeq (by omega) (by omega)] at h
      refine And.intro rfl (And.intro rfl ?_)
      rw [bi_t]
      show decide _ = true
      rw [decide_eq_true_eq]
      exact h
    · rw [nIeq (by omega) (by omega)] at h
      refine And.intro rfl (And.intro rfl ?_)
      rw [bi_f]
      show ¬ decide _ = true
      rw [decide_eq_true_eq]
      exact h
  | succ ones IH =>
    intro ho S c k hs hT hok hL hSl hk
    have key : ∀ (j i : Nat) (x f : Int32) (v7 : Option PV) (w : Wd), i + j = L.length → x = nI i → f = 0 → w = (c, m) → sfF (chS n p row R) (ones + 1) (L.drop k) S = sfF (chS n p row R) (ones + 1) (L.drop i) S → Go (3 + (ones + 1)) 43 none 26 [some (vR false 11 t), some (vI (nI (ones + 1))), some (vI (nI k)), some (vI (nI (dd row p))), some (vR false 19 0), some (vI f), some (vI x), v7] [] w (fun w' r' => w' = (c, m) ∧ r' = some (vI (bi (sfF (chS n p row R) (ones + 1) (L.drop k) S = true)))) := by
      intro j
      induction j with
      | zero =>
        intro i x f v7 w hi hx hf hw hv
        subst hw hf
        refine go_ev 100 [26] (bT (c := c.1 11 t 10 ≤ x) (by rw [hL.1, hx, nIle (by omega) (by omega)]; omega) (And.intro rfl (And.intro rfl ?_)))
        rw [hv, List.drop_eq_nil_of_le (by omega)]
        rfl
      | succ j ih =>
        intro i x f v7 w hi hx hf hw hv
        subst hw hf hx
        obtain ⟨sl, hsl⟩ : ∃ sl, L[i]? = some sl := ⟨_, List.getElem?_eq_getElem (show i < L.length by omega)⟩
        have hdr : L.drop i = sl :: L.drop (i + 1) := by
          obtain ⟨h1, h2⟩ := List.getElem?_eq_some_iff.mp hsl
          rw [List.drop_eq_getElem_cons h1, h2]
        obtain ⟨e, he, h5, -⟩ := hSl sl (List.mem_of_getElem? hsl)
        have hoe := hok.2.2.1 e (List.mem_of_getElem? he)
        have hv100 : valE sl.2 e < 100 := by
          unfold valE
          split
          · exact hoe.2.2.2.2
          · exact hoe.2.2.2.1
        have hl1 : lstE sl.2 e ≤ 1 := by
          unfold lstE
          split
          · omega
          · split <;> omega
        have hslt : sl.1 < S.length := (List.getElem?_eq_some_iff.mp he).1
        have h40 : S.length ≤ 40 := hok.2.1
        have hgt := Bool.toNat_lt sl.2
        have hpl : c.2.1 22 t (nI i).toNatClampNeg = nI (2 * sl.1 + sl.2.toNat) := by
          rw [pk_cl i]
          exact hL.2 i sl hsl
        have hpc : (c.2.1 22 t (nI i).toNatClampNeg).toNatClampNeg = 2 * sl.1 + sl.2.toNat := pk_cl _ hpl
        have hpi : vp_in (c.2.1 22 t (nI i).toNatClampNeg) 80 := pk_in (2 * sl.1 + sl.2.toNat) 80 (by omega) hpl
        have hval : c.2.1 18 t (c.2.1 22 t (nI i).toNatClampNeg).toNatClampNeg = nI (valE sl.2 e) := by
          rw [hpc]
          exact cStp_val hT he h5
        have hLA : Fn 0 44 [vR false 11 t, vI (c.2.1 22 t (nI i).toNatClampNeg)] (c, m) (c, m) (some (vI (nI (lstE sl.2 e)))) := by
          rw [hpl]
          exact c_leastAt hT hok he h5
        have hstep : sfF (chS n p row R) (ones + 1) (L.drop i) S = ((mayS S sl && sfF (chS n p row R) ones (L.drop i) (decS S sl)) || sfF (chS n p row R) (ones + 1) (L.drop (i + 1)) S) := by
          rw [hdr]
          rfl
        have hmay : mayS S sl = decide (lstE sl.2 e < valE sl.2 e) := by
          unfold mayS
          rw [he]
        refine go_ev 100 [26] (bF (c := c.1 11 t 10 ≤ nI i) (by rw [hL.1, nIle (by omega) (by omega)]; omega) ?_)
        refine bT (c := (0 : Int32) = 0) rfl ?_
        refine dI (pk_in i 80 (by omega)) (dI hpi (iF hLA (by omega) ?_))
        refine bI (c := c.2.1 18 t (c.2.1 22 t (nI i).toNatClampNeg).toNatClampNeg ≤ nI (lstE sl.2 e)) (fun h => ?_) (fun h => ?_)
        · rw [hval, nIle (by omega) (by omega)] at h
          refine ih (i + 1) _ _ _ _ (by omega) (nI_succ i).symm rfl rfl ?_
          rw [hv, hstep, hmay, decide_eq_false (by omega)]
          rfl
        · rw [hval, nIle (by omega) (by omega)] at h
          have hc1v : c.2.1 18 t (c.2.1 22 t (nI i).toNatClampNeg).toNatClampNeg - 1 = nI (valE sl.2 e - 1) := by
            rw [hval, nI_sub1 (by omega)]
          have hT1 := CT_dec hT he h5 hc1v
          rw [← hpc] at hT1
          have hrec := IH (by omega) (decS S sl) (c.1, upA c.2.1 18 t (c.2.1 22 t (nI i).toNatClampNeg).toNatClampNeg (c.2.1 18 t (c.2.1 22 t (nI i).toNatClampNeg).toNatClampNeg - 1), c.2.2) i hs hT1 (okT_dec sl hok) (show CSl (c.1, upA c.2.1 18 t (c.2.1 22 t (nI i).toNatClampNeg).toNatClampNeg (c.2.1 18 t (c.2.1 22 t (nI i).toNatClampNeg).toNatClampNeg - 1), c.2.2) t L from hL) (fun sl' h' => okSl_dec (hSl sl' h')) (show i ≤ L.length by omega)
          have hone : nI (ones + 1) - 1 = nI ones := by rw [nI_sub1 (by omega)]; rfl
          rw [← hone] at hrec
          refine dI hpi (dI hpi (iF hrec (by omega) (dI hpi (dI hpi ?_))))
          have hback : upA (upA c.2.1 18 t (c.2.1 22 t (nI i).toNatClampNeg).toNatClampNeg (c.2.1 18 t (c.2.1 22 t (nI i).toNatClampNeg).toNatClampNeg - 1)) 18 t (c.2.1 22 t (nI i).toNatClampNeg).toNatClampNeg (upA c.2.1 18 t (c.2.1 22 t (nI i).toNatClampNeg).toNatClampNeg (c.2.1 18 t (c.2.1 22 t (nI i).toNatClampNeg).toNatClampNeg - 1) 18 t (c.2.1 22 t (nI i).toNatClampNeg).toNatClampNeg + 1) = c.2.1 := upA_back (by rw [upA_s, pk_us, Int32.sub_add_cancel])
          have hfin : ∀ w : Wd, w = (c, m) → Go (3 + (ones + 1)) 43 none 26 [some (vR false 11 t), some (vI (nI (ones + 1))), some (vI (nI k)), some (vI (nI (dd row p))), some (vR false 19 0), some (vI (bi (sfF (chS n p row R) ones (L.drop i) (decS S sl) = true))), some (vI (nI i + 1)), some (vI (c.2.1 22 t (nI i).toNatClampNeg))] [] w (fun w' r' => w' = (c, m) ∧ r' = some (vI (bi (sfF (chS n p row R) (ones + 1) (L.drop k) S = true)))) := by
            intro w hw
            cases hb : sfF (chS n p row R) ones (L.drop i) (decS S sl) with
            | false =>
              refine ih (i + 1) _ _ _ _ (by omega) (nI_succ i).symm rfl hw ?_
              rw [hv, hstep, hb, Bool.and_false]
              rfl
            | true =>
              subst hw
              have hfin : bi (sfF (chS n p row R) (ones + 1) (L.drop k) S = true) = 1 := by
                rw [bi_t]
                rw [hv, hstep, hmay, hb, decide_eq_true (by omega)]
                rfl
              have hend : zok (1 : Int32) ∧ (((c, m) : Wd) = (c, m) ∧ (some (vI 1) : Option PV) = some (vI (bi (sfF (chS n p row R) (ones + 1) (L.drop k) S = true)))) := ⟨rfl, rfl, by rw [hfin]⟩
              refine go_ev 100 [26] (bI (c := c.1 11 t 10 ≤ nI i + 1) (fun _ => hend) (fun _ => bF (c := (1 : Int32) = 0) (by decide) hend))
          refine hfin _ ?_
          show (((c.1, upA (upA c.2.1 18 t (c.2.1 22 t (nI i).toNatClampNeg).toNatClampNeg (c.2.1 18 t (c.2.1 22 t (nI i).toNatClampNeg).toNatClampNeg - 1)) 18 t (c.2.1 22 t (nI i).toNatClampNeg).toNatClampNeg (upA c.2.1 18 t (c.2.1 22 t (nI i).toNatClampNeg).toNatClampNeg (c.2.1 18 t (c.2.1 22 t (nI i).toNatClampNeg).toNatClampNeg - 1) 18 t (c.2.1 22 t (nI i).toNatClampNeg).toNatClampNeg + 1), c.2.2), m) : Wd) = (c, m)
          rw [hback]
    refine ctr_ev 100 [26] rfl rfl (bT (c := (0 : Int32) < nI (ones + 1)) (by rw [show (0 : Int32) = nI 0 from rfl, nIlt (by decide) (by omega)]; omega) ?_)
    exact key (L.length - k) k _ _ none _ (by omega) rfl rfl rfl rfl
end SFC
end
section
/-! softer words: the class's calls -/
def sfA (f : Nat → Option Nat) : Nat → Nat → Nat → Option Nat
  | 0, _, a => some a
  | j + 1, k, a => match f k with
    | none => none
    | some v => sfA f j (k + 1) (a + v)
def sSoft (n : Nat) (Ts : Nat → Trm) (p r : Int32) : Int32 := if p = -1 ∨ inP n p then (if inR n r then (if p = -1 then optI (sfA (fun q => sfN n q (tN r) (Ts q)) n 0 0) else optI (sfN n (tN p) (tN r) (Ts (tN p)))) else -1002) else -1001
theorem sfN_lt {n p row : Nat} {T : Trm} {k : Nat} (h : sfN n p row T = some k) : k < 4 := by
  have := fst_lt _ _ _ h
  omega
theorem sfN_opt {n p row : Nat} {T : Trm} : optI (sfN n p row T) = -1 ↔ sfN n p row T = none := optI_none (fun k h => by
  have := sfN_lt h
  omega)
section SFC
variable {n p row : Nat} {Ts : Nat → Trm} {X I : Sd → Prop} {c m : Sd}
theorem c_pSoft (h6 : n ≤ 6) (hok : ∀ p, okT (Ts p)) (hX : Cls X) (hXs : ∀ c, X c → ∀ p, p < 6 → CSl c (c.2.2 9 p) (slo (Ts p).2)) (hI : ∀ c, I c ↔ CV n Ts c ∧ X c) (hc : I c) (hp : p < n) (hr : row < 4 ^ n) : Ctr 7 10 [vR false 9 p, vI (nI row), vI (nI n)] (c, m) (PQ I m (optI (sfN n p row (Ts p)))) := by
  obtain ⟨hV, hXc⟩ := (hI c).mp hc
  have hr6 := pow4_le h6
  obtain ⟨hnum, hT, -⟩ := hV.2 p (by omega)
  have hc' : I (lkd c n p row 9) := (hI _).mpr ⟨CV_lkd p row 9 hV, hX _ _ (lkd_sam c n p row 9) hXc⟩
  have hL : Fn 1 31 [vR false 19 0, vI (c.1 9 p 0), vI (nI row), vI 9, vI (nI n)] (c, m) (lkd c n p row 9, m) none := by
    rw [hnum]
    exact c_look (by omega) (by omega) _ _
  have h80 : (slo (Ts p).2).length ≤ 80 := by
    have h1 := sloF_len (Ts p).2 0
    have h2 := (hok p).2.1
    unfold slo
    omega
  have hD : Fn 0 89 [vI (nI row), vI (c.1 9 p 0)] (lkd c n p row 9, m) (lkd c n p row 9, m) (some (vI (nI (dd row p)))) := by
    rw [hnum]
    exact c_deedN _ (by omega) (by omega)
  have hS : ∀ k, k ≤ 3 → Fn (3 + k) 43 [vR false 11 (c.2.2 9 p), vI (nI k), vI 0, vI (nI (dd row p)), vR false 19 0] (lkd c n p row 9, m) (lkd c n p row 9, m) (some (vI (bi (sfF (chS n p row (Ts p).1) k (slo (Ts p).2) (Ts p).2 = true)))) := fun k hk =>
    c_softens (t := c.2.2 9 p) (L := slo (Ts p).2) (R := (Ts p).1) h6 hp hr h80 k hk (Ts p).2 (lkd c n p row 9) 0 (lkd_scn c n p row 9) (lkd_CT hT) (hok p) (hXs c hXc p (by omega)) (slo_ok _) (Nat.zero_le _)
  have key : ∀ (j k : Nat) (x : Int32), k + j = 4 → x = nI k → sfN n p row (Ts p) = fst (fun k => sfF (chS n p row (Ts p).1) k (slo (Ts p).2) (Ts p).2) j k → Go 7 10 none 17 [some (vR false 9 p), some (vI (nI row)), some (vI (nI n)), some (vI x)] [] (lkd c n p row 9, m) (PQ I m (optI (sfN n p row (Ts p)))) := by
    intro j
    induction j with
    | zero =>
      intro k x hk hx hf
      refine go_ev 100 [17] (bT (c := (3 : Int32) < x) (by rw [hx, show (3 : Int32) = nI 3 from rfl, nIlt (by decide) (by omega)]; omega) (pqi hc' ?_))
      rw [hf]
      rfl
    | succ j ih =>
      intro k x hk hx hf
      subst hx
      refine go_ev 100 [17] (bF (c := (3 : Int32) < nI k) (by rw [show (3 : Int32) = nI 3 from rfl, nIlt (by decide) (by omega)]; omega) ?_)
      refine iF hD (by decide) (iF (hS k (by omega)) (by omega) (bI (fun h => ?_) (fun h => ?_)))
      · rw [bi_0] at h
        refine ih (k + 1) _ (by omega) (nI_succ k).symm ?_
        rw [hf]
        conv => lhs; unfold fst
        rw [if_neg h]
      · rw [bi_0, Classical.not_not] at h
        refine pqi hc' ?_
        rw [hf]
        unfold fst
        rw [if_pos h]
        rfl
  refine ctr_ev 100 [17] rfl rfl (iF hL (by decide) ?_)
  exact key 4 0 0 rfl rfl rfl
theorem c_vSoft (h6 : n ≤ 6) (hok : ∀ p, okT (Ts p)) (hX : Cls X) (hXs : ∀ c, X c → ∀ p, p < 6 → CSl c (c.2.2 9 p) (slo (Ts p).2)) (hI : ∀ c, I c ↔ CV n Ts c ∧ X c) (hc : I c) (hr : row < 4 ^ n) : Ctr 8 60 [vR false 7 0, vI (nI row)] (c, m) (PQ I m (optI (sfA (fun q => sfN n q row (Ts q)) n 0 0))) := by
  have hn : ∀ c, I c → c.1 7 0 1 = nI n := fun c hc => ((hI c).mp hc).1.1
  have key : ∀ (j k a : Nat) (x ax : Int32) (v4 : Option PV) (c : Sd), k + j = n → x = nI k → ax = nI a → I c → sfA (fun q => sfN n q row (Ts q)) n 0 0 = sfA (fun q => sfN n q row (Ts q)) j k a → Go 8 60 none 4 [some (vR false 7 0), some (vI (nI row)), some (vI ax), some (vI x), v4] [] (c, m) (PQ I m (optI (sfA (fun q => sfN n q row (Ts q)) n 0 0))) := by
    intro j
    induction j with
    | zero =>
      intro k a x ax v4 c hk hx ha hc hf
      refine go_ev 100 [4] (bT (c := c.1 7 0 1 ≤ x) (by rw [hn c hc, hx, nIle (by omega) (by omega)]; omega) (pqi hc ?_))
      rw [hf, ha]
      rfl
    | succ j ih =>
      intro k a x ax v4 c hk hx ha hc hf
      subst hx ha
      refine go_ev 100 [4] (bF (c := c.1 7 0 1 ≤ nI k) (by rw [hn c hc, nIle (by omega) (by omega)]; omega) (dI (vp6 (by omega)) ?_))
      have hP : Ctr 7 10 [vR false 9 (nI k).toNatClampNeg, vI (nI row), vI (c.1 7 0 1)] (c, m) (PQ I m (optI (sfN n k row (Ts k)))) := by
        rw [show (nI k).toNatClampNeg = k from pk_cl k, hn c hc]
        exact c_pSoft h6 hok hX hXs hI hc (by omega) hr
      refine iC hP (by decide) ?_
      rintro _ _ ⟨c', rfl, hc', rfl⟩
      refine bI (c := optI (sfN n k row (Ts k)) = -1) (fun h => ?_) (fun h => ?_)
      · rw [sfN_opt] at h
        refine pqi hc' ?_
        rw [hf]
        unfold sfA
        rw [h]
        rfl
      · rw [sfN_opt] at h
        obtain ⟨v, hv⟩ := Option.ne_none_iff_exists'.mp h
        have hgo := ih (k + 1) (a + v) (nI k + 1) (nI a + optI (sfN n k row (Ts k))) (some (vI (optI (sfN n k row (Ts k))))) c' (by omega) (nI_succ k).symm (by rw [hv]; exact nIadd a v) hc' (by
          rw [hf]
          conv => lhs; unfold sfA
          rw [hv])
        exact hgo
  refine ctr_ev 100 [4] rfl rfl ?_
  exact key n 0 0 0 0 none c (by omega) rfl rfl hc rfl
theorem c_soft (h1 : 1 ≤ n) (h6 : n ≤ 6) (hok : ∀ p, okT (Ts p)) (hX : Cls X) (hXs : ∀ c, X c → ∀ p, p < 6 → CSl c (c.2.2 9 p) (slo (Ts p).2)) (hI : ∀ c, I c ↔ CV n Ts c ∧ X c) (hc : I c) (p r : Int32) : Ctr 9 75 [vR false 0 0, vI p, vI r] (c, m) (PQ I m (sSoft n Ts p r)) := by
  have hn : ∀ c, I c → c.1 7 0 1 = nI n := fun c hc => ((hI c).mp hc).1.1
  have hr6 := pow4_le h6
  have hrow : p = -1 ∨ inP n p → Go 9 75 none 20 [some (vR false 0 0), some (vI p), some (vI r)] [] (c, m) (PQ I m (sSoft n Ts p r)) := by
    intro hp
    refine go_ev 100 [] (iF (c_hasRow h6 (hn c hc) r) (by decide) (bI (fun h => ?_) (fun h => ?_)))
    · rw [bi_0] at h
      refine pqi hc ?_
      rw [sSoft, if_pos hp, if_neg h]
    · rw [bi_0, Classical.not_not] at h
      rw [sSoft, if_pos hp, if_pos h]
      obtain ⟨hk2, he2⟩ := clampP (pow4_pos n) (by omega) h
      generalize tN r = row at hk2 he2 ⊢
      subst he2
      refine bI (c := p = -1) (fun hm => ?_) (fun hm => ?_)
      · rw [if_pos hm]
        refine iC (c_vSoft h6 hok hX hXs hI hc hk2) (by decide) ?_
        rintro _ _ ⟨c', rfl, hc', rfl⟩
        exact pqi hc' rfl
      · rw [if_neg hm]
        obtain ⟨hk1, he1⟩ := clampP h1 (by omega) (hp.resolve_left hm)
        generalize tN p = q at hk1 he1 ⊢
        subst he1
        have hP : Ctr 7 10 [vR false 9 (nI q).toNatClampNeg, vI (nI row), vI (c.1 7 0 1)] (c, m) (PQ I m (optI (sfN n q row (Ts q)))) := by
          rw [show (nI q).toNatClampNeg = q from pk_cl q, hn c hc]
          exact c_pSoft h6 hok hX hXs hI hc hk1 hk2
        refine dI (vp6 (by omega)) (iC hP (by decide) ?_)
        rintro _ _ ⟨c', rfl, hc', rfl⟩
        exact pqi hc' rfl
  refine ctr_ev 100 [20] rfl rfl (bI (c := p = -1) (fun h => hrow (Or.inl h)) (fun h => ?_))
  refine iF (c_has (hn c hc) p) (by decide) (bI (fun h2 => ?_) (fun h2 => ?_))
  · rw [bi_0] at h2
    refine pqi hc ?_
    rw [sSoft, if_neg (fun z => z.elim h h2)]
  · rw [bi_0, Classical.not_not] at h2
    exact hrow (Or.inr h2)
end SFC
end
section
/-! softer words: the model -/
def sfK (g : Bool) : Nat := if g = true then 39 else 38
def sfU (m : Sd) (sl : Slt) (d : Int32) : Sd := (m.1, upA m.2.1 (sfK sl.2) 0 sl.1 (m.2.1 (sfK sl.2) 0 sl.1 + d), m.2.2)
def MSl (m : Sd) (L : List Slt) : Prop := m.1 0 0 49 = nI L.length ∧ ∀ k sl, L[k]? = some sl → m.2.1 47 0 k = nI sl.1 ∧ m.2.1 48 0 k = bi (sl.2 = true)
def mTld (m : Sd) (p : Nat) (S : List StpT) : Prop := ∀ s e, S[s]? = some e → m.2.1 11 0 (64 * p + s) = bi (e.2.2.2.2.2 = true)
theorem i32_sub3 (a b d : Int32) : a - (b + d) = a - b - d := by
  rw [Int32.sub_eq_add_neg, Int32.neg_add, Int32.sub_eq_add_neg, Int32.sub_eq_add_neg, Int32.sub_eq_add_neg, Int32.add_assoc]
theorem MSl_trs {m m' : Sd} {L : List Slt} (h : TrS m m') (hL : MSl m L) : MSl m' L := by
  refine ⟨by rw [h.1]; exact hL.1, fun k sl hk => ?_⟩
  rw [h.2.1 47 0 (by decide), h.2.1 48 0 (by decide)]
  exact hL.2 k sl hk
theorem sfU_arr (m : Sd) (sl : Slt) (d : Int32) {k : Nat} (hk : k ≠ 38 ∧ k ≠ 39) (i : Nat) : (sfU m sl d).2.1 k i = m.2.1 k i := by
  refine upA_n _ _ (fun z => ?_)
  have := z.1
  unfold sfK at this
  split at this <;> omega
theorem MSl_sfU {m : Sd} {L : List Slt} (sl : Slt) (d : Int32) (hL : MSl m L) : MSl (sfU m sl d) L := by
  refine ⟨hL.1, fun k sl' hk => ?_⟩
  rw [sfU_arr m sl d (by decide), sfU_arr m sl d (by decide)]
  exact hL.2 k sl' hk
theorem TrS_back {m m' m2 : Sd} {sl : Slt} {d d' : Int32} (h : TrS m m') (h2 : TrS (sfU m' sl d) m2) (hd : d + d' = 0) : TrS m (sfU m2 sl d') := by
  have hK : sfK sl.2 ≠ 40 := by
    unfold sfK
    split <;> decide
  refine ⟨h2.1.trans h.1, fun k i hk => ?_, h2.2.2.trans h.2.2⟩
  rw [← h.2.1 k i hk]
  show upA m2.2.1 (sfK sl.2) 0 sl.1 (m2.2.1 (sfK sl.2) 0 sl.1 + d') k i = _
  have e1 := h2.2.1 (sfK sl.2) 0 hK
  by_cases hki : k = sfK sl.2 ∧ i = 0
  · obtain ⟨rfl, rfl⟩ := hki
    rw [upA_s, e1]
    show upd (upA m'.2.1 (sfK sl.2) 0 sl.1 (m'.2.1 (sfK sl.2) 0 sl.1 + d) (sfK sl.2) 0) sl.1 (upA m'.2.1 (sfK sl.2) 0 sl.1 (m'.2.1 (sfK sl.2) 0 sl.1 + d) (sfK sl.2) 0 sl.1 + d') = _
    rw [upA_s, pk_us, Int32.add_assoc, hd, Int32.add_zero]
    funext j
    by_cases hj : j = sl.1
    · rw [hj, pk_us]
    · rw [pk_un hj, pk_un hj]
  · rw [upA_n _ _ hki, h2.2.1 k i hk]
    exact upA_n _ _ hki
theorem mRul_arr {m m' : Sd} {p : Nat} (hA : ∀ k, k ≤ 5 → m'.2.1 k 0 = m.2.1 k 0) : ∀ {R : List (Nat × Nat × Nat)} {r f : Nat}, mRul m p R r f → mRul m' p R r f
  | [], _, _, _ => trivial
  | (k, o, e) :: R, r, f, hR => by
    obtain ⟨h1, h2⟩ := hR
    refine ⟨?_, mRul_arr hA h2⟩
    rw [hA 2 (by decide), hA 3 (by decide), hA 4 (by decide), hA 5 (by decide)]
    exact h1
theorem mStp_val {m : Sd} {p : Nat} {S : List StpT} {sl : Slt} {e : StpT} (hS : mStps m p S) (h37 : m.1 0 0 37 = nI p) (he : S[sl.1]? = some e) (h5 : e.1 < 5) (h2 : sl.2 = false → 2 ≤ e.1) : m.2.1 (if sl.2 = true then 10 else 9) 0 (64 * p + sl.1) - m.2.1 (sfK sl.2) 0 sl.1 = nI (valE sl.2 e) := by
  obtain ⟨s, g⟩ := sl
  obtain ⟨-, q1, q2⟩ := hS s e he
  obtain ⟨-, -, q3⟩ := q1 h5
  cases g with
  | false =>
    have := q2 (h2 rfl) h5
    unfold effM at this
    rw [if_pos h37.symm] at this
    exact this
  | true =>
    unfold effG at q3
    rw [if_pos h37.symm] at q3
    exact q3
theorem MT_dec {m : Sd} {p : Nat} {R : List (Nat × Nat × Nat)} {S : List StpT} {sl : Slt} {e : StpT} (hT : MT m p (R, S)) (h37 : m.1 0 0 37 = nI p) (he : S[sl.1]? = some e) (h5 : e.1 < 5) (h2 : sl.2 = false → 2 ≤ e.1) (hv : 1 ≤ valE sl.2 e) : MT (sfU m sl 1) p (R, decS S sl) := by
  have hval := mStp_val hT.2.2 h37 he h5 h2
  refine ⟨?_, mRul_arr (fun k hk => sfU_arr m sl 1 (by omega) 0) hT.2.1, fun i x hx => ?_⟩
  · rw [sfU_arr m sl 1 (by decide)]
    exact hT.1
  · have hx : (decS S sl)[i]? = some x := hx
    rw [decS_get] at hx
    have e37 : (sfU m sl 1).1 0 0 37 = nI p := h37
    unfold mStp effG effM
    rw [sfU_arr m sl 1 (k := 6) (by decide), sfU_arr m sl 1 (k := 7) (by decide), sfU_arr m sl 1 (k := 8) (by decide), sfU_arr m sl 1 (k := 9) (by decide), sfU_arr m sl 1 (k := 10) (by decide), if_pos e37.symm, if_pos e37.symm]
    obtain ⟨s, g⟩ := sl
    split at hx
    · rename_i hi
      have hi : i = s := hi
      subst hi
      have he : S[i]? = some e := he
      rw [he] at hx
      cases hx
      obtain ⟨q0, q1, q2⟩ := hT.2.2 i e he
      unfold effG at q1
      unfold effM at q2
      rw [if_pos h37.symm] at q1 q2
      refine ⟨q0, fun z => ?_, fun y z => ?_⟩
      · obtain ⟨r1, r2, r3⟩ := q1 z
        refine ⟨r1, r2, ?_⟩
        cases g with
        | false =>
          exact r3
        | true =>
          show m.2.1 10 0 (64 * p + i) - upA m.2.1 39 0 i (m.2.1 39 0 i + 1) 39 0 i = nI (e.2.2.2.2.1 - 1)
          have hv : 1 ≤ e.2.2.2.2.1 := hv
          rw [upA_s, pk_us, i32_sub3, r3, nI_sub1 hv]
      · have r3 := q2 y z
        cases g with
        | false =>
          show m.2.1 9 0 (64 * p + i) - upA m.2.1 38 0 i (m.2.1 38 0 i + 1) 38 0 i = nI (e.2.2.2.1 - 1)
          have hv : 1 ≤ e.2.2.2.1 := hv
          rw [upA_s, pk_us, i32_sub3, r3, nI_sub1 hv]
        | true =>
          exact r3
    · rename_i hi
      have hi : ¬ i = s := hi
      have := hT.2.2 i x hx
      unfold mStp effG effM at this
      rw [if_pos h37.symm, if_pos h37.symm] at this
      have hu : ∀ K, (sfU m (s, g) 1).2.1 K 0 i = m.2.1 K 0 i := fun K => by
        show upA m.2.1 (sfK g) 0 s _ K 0 i = _
        by_cases hK : K = sfK g
        · rw [hK, upA_s, pk_un hi]
        · rw [upA_n _ _ (fun z => hK z.1)]
      rw [hu 38, hu 39]
      exact this
section SFM
variable {n p row : Nat} {c m : Sd} {R : List (Nat × Nat × Nat)} {S : List StpT} {L : List Slt}
theorem m_soften {i : Nat} {sl : Slt} (hp : p < 6) (hs64 : sl.1 < 64) (hi : i < 128) (hL : MSl m L) (hsl : L[i]? = some sl) (d : Int32) : Fn 1 144 [vR true 0 0, vI (nI p), vI (nI i), vI d] (c, m) (c, sfU m sl d) (some (vI (bi (¬ m.2.1 (if sl.2 = true then 10 else 9) 0 (64 * p + sl.1) - (m.2.1 (sfK sl.2) 0 sl.1 + d) < (if sl.2 = true then 0 else bi (m.2.1 6 0 (64 * p + sl.1) = 4)))))) := by
  obtain ⟨s, g⟩ := sl
  obtain ⟨q1, q2⟩ := hL.2 i (s, g) hsl
  have q1 : m.2.1 47 0 (nI i).toNatClampNeg = nI s := by rw [pk_cl i]; exact q1
  have q2 : m.2.1 48 0 (nI i).toNatClampNeg = bi (g = true) := by rw [pk_cl i]; exact q2
  have hs64 : s < 64 := hs64
  have hii : vp_in (nI i) 128 := pk_in i 128 hi
  have hix : (64 : Int32) * nI p + m.2.1 47 0 (nI i).toNatClampNeg = nI (64 * p + s) := by rw [q1, show (64 : Int32) = nI 64 from rfl, pk_mul, nIadd]
  have hic := pk_cl (64 * p + s) hix
  have hin := pk_in (64 * p + s) 384 (by omega) hix
  have hsc := pk_cl s q1
  have hsi := pk_in s 64 hs64 q1
  refine ctr_ev 100 [] rfl rfl (dI hii (dI hii ?_))
  refine bI (c := m.2.1 48 0 (nI i).toNatClampNeg = 0) (fun h => ?_) (fun h => ?_)
  · rw [q2, bb0] at h
    subst h
    refine dI hsi (dI hsi (dI hin (dI hsi (dI hin ?_))))
    have hu : upA m.2.1 38 0 (m.2.1 47 0 (nI i).toNatClampNeg).toNatClampNeg (m.2.1 38 0 (m.2.1 47 0 (nI i).toNatClampNeg).toNatClampNeg + d) 9 0 ((64 : Int32) * nI p + m.2.1 47 0 (nI i).toNatClampNeg).toNatClampNeg - upA m.2.1 38 0 (m.2.1 47 0 (nI i).toNatClampNeg).toNatClampNeg (m.2.1 38 0 (m.2.1 47 0 (nI i).toNatClampNeg).toNatClampNeg + d) 38 0 (m.2.1 47 0 (nI i).toNatClampNeg).toNatClampNeg = m.2.1 9 0 (64 * p + s) - (m.2.1 38 0 s + d) := by
      rw [hsc, hic, upA_s, pk_us, upA_n _ _ (fun z => absurd z.1 (by decide))]
    have hk : upA m.2.1 38 0 (m.2.1 47 0 (nI i).toNatClampNeg).toNatClampNeg (m.2.1 38 0 (m.2.1 47 0 (nI i).toNatClampNeg).toNatClampNeg + d) 6 0 ((64 : Int32) * nI p + m.2.1 47 0 (nI i).toNatClampNeg).toNatClampNeg = m.2.1 6 0 (64 * p + s) := by
      rw [hic, upA_n _ _ (fun z => absurd z.1 (by decide))]
    have hw : ((c, (m.1, upA m.2.1 38 0 (m.2.1 47 0 (nI i).toNatClampNeg).toNatClampNeg (m.2.1 38 0 (m.2.1 47 0 (nI i).toNatClampNeg).toNatClampNeg + d), m.2.2)) : Wd) = (c, sfU m (s, false) d) := by
      rw [hsc]
      rfl
    have fin : ∀ (o : Int32), o = bi (m.2.1 6 0 (64 * p + s) = 4) → Br (upA m.2.1 38 0 (m.2.1 47 0 (nI i).toNatClampNeg).toNatClampNeg (m.2.1 38 0 (m.2.1 47 0 (nI i).toNatClampNeg).toNatClampNeg + d) 9 0 ((64 : Int32) * nI p + m.2.1 47 0 (nI i).toNatClampNeg).toNatClampNeg - upA m.2.1 38 0 (m.2.1 47 0 (nI i).toNatClampNeg).toNatClampNeg (m.2.1 38 0 (m.2.1 47 0 (nI i).toNatClampNeg).toNatClampNeg + d) 38 0 (m.2.1 47 0 (nI i).toNatClampNeg).toNatClampNeg < o) (zok 0 ∧ (((c, (m.1, upA m.2.1 38 0 (m.2.1 47 0 (nI i).toNatClampNeg).toNatClampNeg (m.2.1 38 0 (m.2.1 47 0 (nI i).toNatClampNeg).toNatClampNeg + d), m.2.2)) : Wd) = (c, sfU m (s, false) d) ∧ (some (vI 0) : Option PV) = some (vI (bi (¬ m.2.1 9 0 (64 * p + s) - (m.2.1 38 0 s + d) < bi (m.2.1 6 0 (64 * p + s) = 4)))))) (zok 1 ∧ (((c, (m.1, upA m.2.1 38 0 (m.2.1 47 0 (nI i).toNatClampNeg).toNatClampNeg (m.2.1 38 0 (m.2.1 47 0 (nI i).toNatClampNeg).toNatClampNeg + d), m.2.2)) : Wd) = (c, sfU m (s, false) d) ∧ (some (vI 1) : Option PV) = some (vI (bi (¬ m.2.1 9 0 (64 * p + s) - (m.2.1 38 0 s + d) < bi (m.2.1 6 0 (64 * p + s) = 4)))))) := by
      intro o ho
      rw [hu, ho]
      refine bI (fun h => ⟨rfl, hw, ?_⟩) (fun h => ⟨rfl, hw, ?_⟩)
      · rw [bi_f (fun z => z h)]
      · rw [bi_t h]
    refine bI (c := upA m.2.1 38 0 (m.2.1 47 0 (nI i).toNatClampNeg).toNatClampNeg (m.2.1 38 0 (m.2.1 47 0 (nI i).toNatClampNeg).toNatClampNeg + d) 6 0 ((64 : Int32) * nI p + m.2.1 47 0 (nI i).toNatClampNeg).toNatClampNeg = 4) (fun h => ?_) (fun h => ?_)
    · rw [hk] at h
      exact iF (m_one _ _) (by decide) (fin _ (by rw [bi_t h]; rfl))
    · rw [hk] at h
      exact iF (m_one _ _) (by decide) (fin _ (by rw [bi_f h]; rfl))
  · rw [q2, bb0, Bool.not_eq_false] at h
    subst h
    refine dI hsi (dI hsi (dI hin (dI hsi ?_)))
    have hu : upA m.2.1 39 0 (m.2.1 47 0 (nI i).toNatClampNeg).toNatClampNeg (m.2.1 39 0 (m.2.1 47 0 (nI i).toNatClampNeg).toNatClampNeg + d) 10 0 ((64 : Int32) * nI p + m.2.1 47 0 (nI i).toNatClampNeg).toNatClampNeg - upA m.2.1 39 0 (m.2.1 47 0 (nI i).toNatClampNeg).toNatClampNeg (m.2.1 39 0 (m.2.1 47 0 (nI i).toNatClampNeg).toNatClampNeg + d) 39 0 (m.2.1 47 0 (nI i).toNatClampNeg).toNatClampNeg = m.2.1 10 0 (64 * p + s) - (m.2.1 39 0 s + d) := by
      rw [hsc, hic, upA_s, pk_us, upA_n _ _ (fun z => absurd z.1 (by decide))]
    have hw : ((c, (m.1, upA m.2.1 39 0 (m.2.1 47 0 (nI i).toNatClampNeg).toNatClampNeg (m.2.1 39 0 (m.2.1 47 0 (nI i).toNatClampNeg).toNatClampNeg + d), m.2.2)) : Wd) = (c, sfU m (s, true) d) := by
      rw [hsc]
      rfl
    refine bI (c := upA m.2.1 39 0 (m.2.1 47 0 (nI i).toNatClampNeg).toNatClampNeg (m.2.1 39 0 (m.2.1 47 0 (nI i).toNatClampNeg).toNatClampNeg + d) 10 0 ((64 : Int32) * nI p + m.2.1 47 0 (nI i).toNatClampNeg).toNatClampNeg - upA m.2.1 39 0 (m.2.1 47 0 (nI i).toNatClampNeg).toNatClampNeg (m.2.1 39 0 (m.2.1 47 0 (nI i).toNatClampNeg).toNatClampNeg + d) 39 0 (m.2.1 47 0 (nI i).toNatClampNeg).toNatClampNeg < 0) (fun h => ?_) (fun h => ?_)
    · rw [hu] at h
      refine And.intro rfl (And.intro hw ?_)
      show _ = some (vI (bi (¬ m.2.1 10 0 (64 * p + s) - (m.2.1 39 0 s + d) < 0)))
      rw [bi_f (fun z => z h)]
    · rw [hu] at h
      refine And.intro rfl (And.intro hw ?_)
      show _ = some (vI (bi (¬ m.2.1 10 0 (64 * p + s) - (m.2.1 39 0 s + d) < 0)))
      rw [bi_t h]
/-- one less -/
theorem m_soften1 {i : Nat} {sl : Slt} (hp : p < 6) (hi : i < 128) (hL : MSl m L) (hsl : L[i]? = some sl) (hT : MT m p (R, S)) (h37 : m.1 0 0 37 = nI p) (hok : okT (R, S)) (hSl : okSl S sl) : Fn 1 144 [vR true 0 0, vI (nI p), vI (nI i), vI 1] (c, m) (c, sfU m sl 1) (some (vI (bi (mayS S sl = true)))) ∧ (mayS S sl = true → MT (sfU m sl 1) p (R, decS S sl)) := by
  obtain ⟨e, he, h5, h2⟩ := hSl
  have hs : sl.1 < S.length := (List.getElem?_eq_some_iff.mp he).1
  have h40 : S.length ≤ 40 := hok.2.1
  have hoe := hok.2.2.1 e (List.mem_of_getElem? he)
  have hv100 : valE sl.2 e < 100 := by
    unfold valE
    split
    · exact hoe.2.2.2.2
    · exact hoe.2.2.2.1
  have hmay : mayS S sl = decide (lstE sl.2 e < valE sl.2 e) := by
    unfold mayS
    rw [he]
  have hval := mStp_val hT.2.2 h37 he h5 h2
  have hF := m_soften (c := c) hp (show sl.1 < 64 by omega) hi hL hsl 1
  have hk : m.2.1 6 0 (64 * p + sl.1) = nI e.1 := (hT.2.2 sl.1 e he).1
  have hlst : (if sl.2 = true then (0 : Int32) else bi (m.2.1 6 0 (64 * p + sl.1) = 4)) = nI (lstE sl.2 e) := by
    unfold lstE
    split
    · rfl
    · rw [hk]
      by_cases h4 : e.1 = 4
      · rw [if_pos h4, bi_t (by rw [h4]; rfl)]
        rfl
      · rw [if_neg h4, bi_f (c := nI e.1 = 4) (fun z => h4 ((nIeq (by omega) (by decide)).mp (show nI e.1 = nI 4 from z)))]
        rfl
  have hl1 : lstE sl.2 e ≤ 1 := by
    unfold lstE
    split
    · omega
    · split <;> omega
  have hb : bi (¬ m.2.1 (if sl.2 = true then 10 else 9) 0 (64 * p + sl.1) - (m.2.1 (sfK sl.2) 0 sl.1 + 1) < (if sl.2 = true then 0 else bi (m.2.1 6 0 (64 * p + sl.1) = 4))) = bi (mayS S sl = true) := by
    rw [hlst, i32_sub3, hval, hmay]
    by_cases hv : 1 ≤ valE sl.2 e
    · rw [nI_sub1 hv]
      by_cases hlt : lstE sl.2 e < valE sl.2 e
      · rw [bi_t (c := decide _ = true) (decide_eq_true hlt), bi_t]
        rw [nIlt (by omega) (by omega)]
        omega
      · rw [bi_f (c := decide _ = true) (by rw [decide_eq_true_eq]; exact hlt), bi_f]
        rw [nIlt (by omega) (by omega)]
        omega
    · rw [show valE sl.2 e = 0 by omega, bi_f (c := decide _ = true) (by rw [decide_eq_true_eq]; omega), bi_f]
      intro z
      apply z
      have h1 : nI 0 - 1 < (0 : Int32) := by decide
      exact Int32.lt_of_lt_of_le h1 (nI_pos' (by omega))
  rw [hb] at hF
  refine ⟨hF, fun z => ?_⟩
  rw [hmay, decide_eq_true_eq] at z
  exact MT_dec hT h37 he h5 h2 (by omega)
theorem m_isLet (hmn : m.1 0 0 0 = nI n) (hn : n ≤ 6) (hp : p < n) (hr : row < 4 ^ n) (h35 : m.1 0 0 35 = -1) {wd : Nat} (h36 : m.1 0 0 36 = nI wd) (hT : MT m p (R, S)) (hok : okT (R, S)) : Ctr 4 145 [vR true 0 0, vI (nI p), vI (nI row)] (c, m) (QT m c (bi (chS n p row R S = true))) := by
  have hlt := letT_lt (n := n) (p := p) (row := row) (day := 9) hok
  have hdl := dd_lt row p
  have hr6 := pow4_le hn
  refine ctr_ev 100 [] rfl rfl (iC (m_letBy (Q := QT m c (nI (letT n p row 9 (R, S)))) (tl := none) (wd := wd) (fun w' r' h => h) hmn hn hp hr (by decide) h35 (fun q hq => by cases hq) h36 hT hok) (by decide) ?_)
  rintro _ _ ⟨m', rfl, hTr, rfl⟩
  refine iF (m_deed _ (by omega) (by omega)) (by decide) (bI (fun h => ?_) (fun h => ?_))
  · rw [nIeq (by omega) (by omega)] at h
    refine And.intro rfl (qti hTr ?_)
    rw [bi_t]
    show decide _ = true
    rw [decide_eq_true_eq]
    exact h
  · rw [nIeq (by omega) (by omega)] at h
    refine And.intro rfl (qti hTr ?_)
    rw [bi_f]
    show ¬ decide _ = true
    rw [decide_eq_true_eq]
    exact h
end SFM
end
section
/-! softer words: the model's loops -/
abbrev lsD (p row : Nat) (cnt f : Int32) (v5 v6 v7 v8 v9 v10 : Option PV) : Ls := [some (vR true 0 0), some (vI (nI p)), some (vI (nI row)), some (vI cnt), some (vI f), v5, v6, v7, v8, v9, v10]
def SBs (n p wd : Nat) (L : List Slt) (m : Sd) : Prop := m.1 0 0 0 = nI n ∧ m.1 0 0 35 = -1 ∧ m.1 0 0 36 = nI wd ∧ m.1 0 0 37 = nI p ∧ MSl m L
theorem SBs_trs {n p wd : Nat} {L : List Slt} {m m' : Sd} (h : TrS m m') (hB : SBs n p wd L m) : SBs n p wd L m' := by
  obtain ⟨h1, h2, h3, h4, h5⟩ := hB
  refine ⟨?_, ?_, ?_, ?_, MSl_trs h h5⟩
  · rw [h.1]; exact h1
  · rw [h.1]; exact h2
  · rw [h.1]; exact h3
  · rw [h.1]; exact h4
theorem SBs_sfU {n p wd : Nat} {L : List Slt} {m : Sd} (sl : Slt) (d : Int32) (hB : SBs n p wd L m) : SBs n p wd L (sfU m sl d) := ⟨hB.1, hB.2.1, hB.2.2.1, hB.2.2.2.1, MSl_sfU sl d hB.2.2.2.2⟩
theorem sfF_step {chk : List StpT → Bool} {k i : Nat} {L : List Slt} {S : List StpT} {sl : Slt} (h : L[i]? = some sl) : sfF chk (k + 1) (L.drop i) S = ((mayS S sl && sfF chk k (L.drop i) (decS S sl)) || sfF chk (k + 1) (L.drop (i + 1)) S) := by
  have hdr : L.drop i = sl :: L.drop (i + 1) := by
    obtain ⟨h1, h2⟩ := List.getElem?_eq_some_iff.mp h
    rw [List.drop_eq_getElem_cons h1, h2]
  rw [hdr]
  rfl
theorem sfF_end {chk : List StpT → Bool} {k i : Nat} {L : List Slt} {S : List StpT} (h : L.length ≤ i) : sfF chk (k + 1) (L.drop i) S = false := by
  rw [List.drop_eq_nil_of_le h]
  rfl
section SFL
variable {n p row wd : Nat} {c m : Sd} {R : List (Nat × Nat × Nat)} {S : List StpT} {L : List Slt} {Q : Wd → Option PV → Prop}
theorem m_softC (hn : n ≤ 6) (hp : p < n) (hr : row < 4 ^ n) (hB : SBs n p wd L m) (hT : MT m p (R, S)) (hok : okT (R, S)) (hSl : ∀ sl ∈ L, okSl S sl) (h80 : L.length ≤ 80) {v5 v6 v7 : Option PV} (k0 : Nat) (hK : ∀ (m2 : Sd) (f : Bool) (x9 : Int32) (v10 : Option PV), TrS m m2 → f = sfF (chS n p row R) 1 (L.drop k0) S → Go 5 146 none 191 (lsD p row (nI 3) (bi (f = true)) v5 v6 v7 (some (vI 1)) (some (vI x9)) v10) [] (c, m2) Q) : ∀ (j i : Nat) (x : Int32) (v10 : Option PV) (m' : Sd), i + j = L.length → x = nI i → TrS m m' → sfF (chS n p row R) 1 (L.drop k0) S = sfF (chS n p row R) 1 (L.drop i) S → Go 5 146 none 124 (lsD p row (nI 3) 0 v5 v6 v7 (some (vI 1)) (some (vI x)) v10) [] (c, m') Q := by
  intro j
  induction j with
  | zero =>
    intro i x v10 m' hi hx hTr hv
    have hB' := SBs_trs hTr hB
    have hend : sfF (chS n p row R) 1 (L.drop k0) S = false := hv.trans (sfF_end (by omega))
    refine go_ev 100 [124, 191] (bT (c := m'.1 0 0 49 ≤ x) (by rw [hB'.2.2.2.2.1, hx, nIle (by omega) (by omega)]; omega) ?_)
    exact hK m' false x v10 hTr hend.symm
  | succ j ih =>
    intro i x v10 m' hi hx hTr hv
    subst hx
    have hB' := SBs_trs hTr hB
    have hT' := MT_trs hTr hT
    obtain ⟨sl, hsl⟩ : ∃ sl, L[i]? = some sl := ⟨_, List.getElem?_eq_getElem (show i < L.length by omega)⟩
    have hoks := hSl sl (List.mem_of_getElem? hsl)
    obtain ⟨hF, hMT⟩ := m_soften1 (c := c) (show p < 6 by omega) (show i < 128 by omega) hB'.2.2.2.2 hsl hT' hB'.2.2.2.1 hok hoks
    have hs64 : sl.1 < 64 := by
      obtain ⟨e, he, -⟩ := hoks
      have h1 : sl.1 < S.length := (List.getElem?_eq_some_iff.mp he).1
      have h2 : S.length ≤ 40 := hok.2.1
      omega
    have hst := sfF_step (chk := chS n p row R) (k := 0) (S := S) hsl
    have h173 : ∀ (f : Bool) (m2 : Sd), TrS (sfU m' sl 1) m2 → f = (mayS S sl && chS n p row R (decS S sl)) → Go 5 146 none 173 (lsD p row (nI 3) 0 v5 v6 v7 (some (vI 1)) (some (vI (nI i))) v10) [vI (bi (f = true))] (c, m2) Q := by
      intro f m2 h2 hf
      have hTr3 := TrS_back (d' := -1) hTr h2 rfl
      have hB2 := SBs_trs h2 (SBs_sfU sl 1 hB')
      have hB3 := SBs_trs hTr3 hB
      have hF2 := m_soften (c := c) (show p < 6 by omega) hs64 (show i < 128 by omega) hB2.2.2.2.2 hsl (-1)
      refine go_ev 100 [124, 191] (iF hF2 (by decide) ?_)
      cases f with
      | false =>
        refine ih (i + 1) _ _ (sfU m2 sl (-1)) (by omega) (nI_succ i).symm hTr3 ?_
        rw [hv, hst]
        show ((mayS S sl && chS n p row R (decS S sl)) || _) = _
        rw [← hf]
        rfl
      | true =>
        have hend : sfF (chS n p row R) 1 (L.drop k0) S = true := by
          rw [hv, hst]
          show ((mayS S sl && chS n p row R (decS S sl)) || _) = _
          rw [← hf]
          rfl
        refine go_ev 100 [124, 191] (bI (c := (sfU m2 sl (-1)).1 0 0 49 ≤ nI i + 1) (fun _ => hK _ true _ _ hTr3 hend.symm) (fun _ => ?_))
        refine bF (c := nI 3 ≤ 2) (by decide) (bF (c := (1 : Int32) = 0) (by decide) (bF (c := (1 : Int32) = 0) (by decide) ?_))
        exact hK _ true _ _ hTr3 hend.symm
    refine go_ev 100 [124, 173, 191] (bF (c := m'.1 0 0 49 ≤ nI i) (by rw [hB'.2.2.2.2.1, nIle (by omega) (by omega)]; omega) ?_)
    refine bF (c := nI 3 ≤ 2) (by decide) (bF (c := (1 : Int32) = 0) (by decide) (bT (c := (0 : Int32) = 0) rfl ?_))
    refine iF hF (by decide) (bI (fun h => ?_) (fun h => ?_))
    · rw [bb0] at h
      exact h173 false _ (TrS_rfl _) (by rw [h]; rfl)
    · rw [bb0, Bool.not_eq_false] at h
      have hB1 := SBs_sfU sl 1 hB'
      refine iC (m_isLet hB1.1 hn hp hr hB1.2.1 hB1.2.2.1 (hMT h) (okT_dec sl hok)) (by decide) ?_
      rintro _ _ ⟨m2, rfl, hTr2, rfl⟩
      refine bI (fun h2 => ?_) (fun h2 => ?_)
      · rw [bb0] at h2
        exact h173 false m2 hTr2 (by rw [h, h2]; rfl)
      · rw [bb0, Bool.not_eq_false] at h2
        exact h173 true m2 hTr2 (by rw [h, h2]; rfl)
theorem m_softB (hn : n ≤ 6) (hp : p < n) (hr : row < 4 ^ n) (hB : SBs n p wd L m) (hT : MT m p (R, S)) (hok : okT (R, S)) (hSl : ∀ sl ∈ L, okSl S sl) (h80 : L.length ≤ 80) {v5 : Option PV} (k0 k : Nat) (hk : k ≤ 1) (hK : ∀ (m2 : Sd) (f : Bool) (x7 : Int32) (v8 v9 v10 : Option PV), TrS m m2 → f = sfF (chS n p row R) (k + 1) (L.drop k0) S → Go 5 146 none 207 (lsD p row (nI (k + 2)) (bi (f = true)) v5 (some (vI 1)) (some (vI x7)) v8 v9 v10) [] (c, m2) Q) : ∀ (j i : Nat) (x : Int32) (v8 v9 v10 : Option PV) (m' : Sd), i + j = L.length → x = nI i → TrS m m' → sfF (chS n p row R) (k + 1) (L.drop k0) S = sfF (chS n p row R) (k + 1) (L.drop i) S → Go 5 146 none 60 (lsD p row (nI (k + 2)) 0 v5 (some (vI 1)) (some (vI x)) v8 v9 v10) [] (c, m') Q := by
  have hk1 : ¬ nI (k + 2) ≤ 1 := by rw [show (1 : Int32) = nI 1 from rfl, nIle (by omega) (by decide)]; omega
  intro j
  induction j with
  | zero =>
    intro i x v8 v9 v10 m' hi hx hTr hv
    have hB' := SBs_trs hTr hB
    have hend : sfF (chS n p row R) (k + 1) (L.drop k0) S = false := hv.trans (sfF_end (by omega))
    refine go_ev 100 [60, 124, 207] (bT (c := m'.1 0 0 49 ≤ x) (by rw [hB'.2.2.2.2.1, hx, nIle (by omega) (by omega)]; omega) ?_)
    exact hK m' false x v8 v9 v10 hTr hend.symm
  | succ j ih =>
    intro i x v8 v9 v10 m' hi hx hTr hv
    subst hx
    have hB' := SBs_trs hTr hB
    have hT' := MT_trs hTr hT
    obtain ⟨sl, hsl⟩ : ∃ sl, L[i]? = some sl := ⟨_, List.getElem?_eq_getElem (show i < L.length by omega)⟩
    have hoks := hSl sl (List.mem_of_getElem? hsl)
    obtain ⟨hF, hMT⟩ := m_soften1 (c := c) (show p < 6 by omega) (show i < 128 by omega) hB'.2.2.2.2 hsl hT' hB'.2.2.2.1 hok hoks
    have hB1 := SBs_sfU sl 1 hB'
    have hs64 : sl.1 < 64 := by
      obtain ⟨e, he, -⟩ := hoks
      have h1 : sl.1 < S.length := (List.getElem?_eq_some_iff.mp he).1
      have h2 : S.length ≤ 40 := hok.2.1
      omega
    have hst := sfF_step (chk := chS n p row R) (k := k) (S := S) hsl
    have h191 : ∀ (f : Bool) (m2 : Sd) (x8 x9 : Int32) (v10 : Option PV), TrS (sfU m' sl 1) m2 → f = (mayS S sl && sfF (chS n p row R) k (L.drop i) (decS S sl)) → Go 5 146 none 191 (lsD p row (nI (k + 2)) (bi (f = true)) v5 (some (vI 1)) (some (vI (nI i))) (some (vI x8)) (some (vI x9)) v10) [] (c, m2) Q := by
      intro f m2 x8 x9 v10 h2 hf
      have hTr3 := TrS_back (d' := -1) hTr h2 rfl
      have hB2 := SBs_trs h2 (SBs_sfU sl 1 hB')
      have hB3 := SBs_trs hTr3 hB
      have hF2 := m_soften (c := c) (show p < 6 by omega) hs64 (show i < 128 by omega) hB2.2.2.2.2 hsl (-1)
      refine go_ev 100 [60, 207] (iF hF2 (by decide) ?_)
      cases f with
      | false =>
        refine ih (i + 1) _ _ _ _ (sfU m2 sl (-1)) (by omega) (nI_succ i).symm hTr3 ?_
        rw [hv, hst, ← hf]
        rfl
      | true =>
        have hend : sfF (chS n p row R) (k + 1) (L.drop k0) S = true := by
          rw [hv, hst, ← hf]
          rfl
        refine go_ev 100 [60, 207] (bI (c := (sfU m2 sl (-1)).1 0 0 49 ≤ nI i + 1) (fun _ => hK _ true _ _ _ _ hTr3 hend.symm) (fun _ => ?_))
        refine bF (c := nI (k + 2) ≤ 1) hk1 (bF (c := (1 : Int32) = 0) (by decide) (bF (c := (1 : Int32) = 0) (by decide) ?_))
        exact hK _ true _ _ _ _ hTr3 hend.symm
    /- count 2: at 120 with the answer -/
    have h118 : k = 0 → ∀ (f : Bool) (m2 : Sd) (x8 : Int32), TrS (sfU m' sl 1) m2 → f = (mayS S sl && sfF (chS n p row R) k (L.drop i) (decS S sl)) → Go 5 146 none 118 (lsD p row (nI (k + 2)) 0 v5 (some (vI 1)) (some (vI (nI i))) (some (vI x8)) v9 v10) [vI (bi (f = true))] (c, m2) Q := by
      intro hk0 f m2 x8 h2 hf
      have hB2 := SBs_trs h2 (SBs_sfU sl 1 hB')
      refine go_ev 100 [191] (bF (c := m2.1 0 0 49 ≤ nI i) (by rw [hB2.2.2.2.2.1, nIle (by omega) (by omega)]; omega) (bT (c := nI (k + 2) ≤ 2) (by rw [hk0]; decide) ?_))
      exact h191 f m2 _ _ _ h2 hf
    refine go_ev 100 [60, 118, 124, 191, 207] (bF (c := m'.1 0 0 49 ≤ nI i) (by rw [hB'.2.2.2.2.1, nIle (by omega) (by omega)]; omega) ?_)
    refine bF (c := nI (k + 2) ≤ 1) hk1 (bF (c := (1 : Int32) = 0) (by decide) (bT (c := (0 : Int32) = 0) rfl ?_))
    refine iF hF (by decide) (bI (c := nI (k + 2) = 2) (fun hc2 => ?_) (fun hc2 => ?_))
    · have hk0 : k = 0 := by
        have := (nIeq (show k + 2 < 2 ^ 31 by omega) (by decide)).mp (show nI (k + 2) = nI 2 from hc2)
        omega
      refine bI (fun h => ?_) (fun h => ?_)
      · rw [bb0] at h
        exact h118 hk0 false _ _ (TrS_rfl _) (by rw [h]; rfl)
      · rw [bb0, Bool.not_eq_false] at h
        refine iC (m_isLet hB1.1 hn hp hr hB1.2.1 hB1.2.2.1 (hMT h) (okT_dec sl hok)) (by decide) ?_
        rintro _ _ ⟨m2, rfl, hTr2, rfl⟩
        refine bI (fun h2 => ?_) (fun h2 => ?_)
        · rw [bb0] at h2
          exact h118 hk0 false m2 _ hTr2 (by rw [h, hk0]; exact h2.symm)
        · rw [bb0, Bool.not_eq_false] at h2
          exact h118 hk0 true m2 _ hTr2 (by rw [h, hk0]; exact h2.symm)
    · have hk0 : k = 1 := by
        rcases (show k = 0 ∨ k = 1 by omega) with h | h
        · exact absurd (by rw [h]; rfl) hc2
        · exact h
      subst hk0
      cases hmy : mayS S sl with
      | false =>
        refine go_ev 100 [191] (bI (c := m'.1 0 0 49 ≤ nI i) (fun _ => ?_) (fun _ => bF (c := nI (1 + 2) ≤ 2) (by decide) (bT (c := (0 : Int32) = 0) rfl ?_)))
        · exact h191 false _ _ _ _ (TrS_rfl _) (by rw [hmy]; rfl)
        · exact h191 false _ _ _ _ (TrS_rfl _) (by rw [hmy]; rfl)
      | true =>
        exact m_softC hn hp hr hB1 (hMT hmy) (okT_dec sl hok) (fun sl' h' => okSl_dec (hSl sl' h')) h80 i (fun m2 f x9 v10 h2 hf => h191 f m2 _ _ _ h2 (by rw [hmy]; exact hf)) (j + 1) i (nI i) v10 (sfU m' sl 1) hi rfl (TrS_rfl _) rfl
theorem m_doesSoft (hn : n ≤ 6) (hp : p < n) (hr : row < 4 ^ n) (hB : SBs n p wd L m) (hT : MT m p (R, S)) (hok : okT (R, S)) (hSl : ∀ sl ∈ L, okSl S sl) (h80 : L.length ≤ 80) (k : Nat) (hk : k ≤ 2) : Ctr 5 146 [vR true 0 0, vI (nI p), vI (nI row), vI (nI (k + 1))] (c, m) (QT m c (bi (sfF (chS n p row R) (k + 1) L S = true))) := by
  have key : ∀ (j i : Nat) (x : Int32) (v6 v7 v8 v9 v10 : Option PV) (m' : Sd), i + j = L.length → x = nI i → TrS m m' → sfF (chS n p row R) (k + 1) L S = sfF (chS n p row R) (k + 1) (L.drop i) S → Go 5 146 none 6 (lsD p row (nI (k + 1)) 0 (some (vI x)) v6 v7 v8 v9 v10) [] (c, m') (QT m c (bi (sfF (chS n p row R) (k + 1) L S = true))) := by
    intro j
    induction j with
    | zero =>
      intro i x v6 v7 v8 v9 v10 m' hi hx hTr hv
      have hB' := SBs_trs hTr hB
      have hend : sfF (chS n p row R) (k + 1) L S = false := hv.trans (sfF_end (by omega))
      refine go_ev 100 [6] (bT (c := m'.1 0 0 49 ≤ x) (by rw [hB'.2.2.2.2.1, hx, nIle (by omega) (by omega)]; omega) (And.intro rfl (qti hTr ?_)))
      rw [hend]
      rfl
    | succ j ih =>
      intro i x v6 v7 v8 v9 v10 m' hi hx hTr hv
      subst hx
      have hB' := SBs_trs hTr hB
      have hT' := MT_trs hTr hT
      obtain ⟨sl, hsl⟩ : ∃ sl, L[i]? = some sl := ⟨_, List.getElem?_eq_getElem (show i < L.length by omega)⟩
      have hoks := hSl sl (List.mem_of_getElem? hsl)
      obtain ⟨hF, hMT⟩ := m_soften1 (c := c) (show p < 6 by omega) (show i < 128 by omega) hB'.2.2.2.2 hsl hT' hB'.2.2.2.1 hok hoks
      have hB1 := SBs_sfU sl 1 hB'
      have hs64 : sl.1 < 64 := by
        obtain ⟨e, he, -⟩ := hoks
        have h1 : sl.1 < S.length := (List.getElem?_eq_some_iff.mp he).1
        have h2 : S.length ≤ 40 := hok.2.1
        omega
      have hst := sfF_step (chk := chS n p row R) (k := k) (S := S) hsl
      have h207 : ∀ (f : Bool) (m2 : Sd) (x6 x7 : Int32) (v8 v9 v10 : Option PV), TrS (sfU m' sl 1) m2 → f = (mayS S sl && sfF (chS n p row R) k (L.drop i) (decS S sl)) → Go 5 146 none 207 (lsD p row (nI (k + 1)) (bi (f = true)) (some (vI (nI i))) (some (vI x6)) (some (vI x7)) v8 v9 v10) [] (c, m2) (QT m c (bi (sfF (chS n p row R) (k + 1) L S = true))) := by
        intro f m2 x6 x7 v8 v9 v10 h2 hf
        have hTr3 := TrS_back (d' := -1) hTr h2 rfl
        have hB2 := SBs_trs h2 (SBs_sfU sl 1 hB')
        have hF2 := m_soften (c := c) (show p < 6 by omega) hs64 (show i < 128 by omega) hB2.2.2.2.2 hsl (-1)
        refine go_ev 100 [6] (iF hF2 (by decide) ?_)
        cases f with
        | false =>
          refine ih (i + 1) _ _ _ _ _ _ (sfU m2 sl (-1)) (by omega) (nI_succ i).symm hTr3 ?_
          rw [hv, hst, ← hf]
          rfl
        | true =>
          have hend : sfF (chS n p row R) (k + 1) L S = true := by
            rw [hv, hst, ← hf]
            rfl
          have hq : (1 : Int32) = bi (sfF (chS n p row R) (k + 1) L S = true) := by rw [hend]; rfl
          exact go_ev 100 [6] (bI (c := (sfU m2 sl (-1)).1 0 0 49 ≤ nI i + 1) (fun _ => And.intro rfl (qti hTr3 hq)) (fun _ => bF (c := (1 : Int32) = 0) (by decide) (And.intro rfl (qti hTr3 hq))))
      have h54 : k = 0 → ∀ (f : Bool) (m2 : Sd) (x6 : Int32), TrS (sfU m' sl 1) m2 → f = (mayS S sl && sfF (chS n p row R) k (L.drop i) (decS S sl)) → Go 5 146 none 54 (lsD p row (nI (k + 1)) 0 (some (vI (nI i))) (some (vI x6)) v7 v8 v9 v10) [vI (bi (f = true))] (c, m2) (QT m c (bi (sfF (chS n p row R) (k + 1) L S = true))) := by
        intro hk0 f m2 x6 h2 hf
        have hB2 := SBs_trs h2 (SBs_sfU sl 1 hB')
        refine go_ev 100 [207] (bF (c := m2.1 0 0 49 ≤ nI i) (by rw [hB2.2.2.2.2.1, nIle (by omega) (by omega)]; omega) (bT (c := nI (k + 1) ≤ 1) (by rw [hk0]; decide) ?_))
        exact h207 f m2 _ _ _ _ _ h2 hf
      refine go_ev 100 [6, 54, 60, 207] (bF (c := m'.1 0 0 49 ≤ nI i) (by rw [hB'.2.2.2.2.1, nIle (by omega) (by omega)]; omega) ?_)
      refine bT (c := (0 : Int32) = 0) rfl ?_
      refine iF hF (by decide) (bI (c := nI (k + 1) = 1) (fun hc2 => ?_) (fun hc2 => ?_))
      · have hk0 : k = 0 := by
          have := (nIeq (show k + 1 < 2 ^ 31 by omega) (by decide)).mp (show nI (k + 1) = nI 1 from hc2)
          omega
        refine bI (fun h => ?_) (fun h => ?_)
        · rw [bb0] at h
          exact h54 hk0 false _ _ (TrS_rfl _) (by rw [h]; rfl)
        · rw [bb0, Bool.not_eq_false] at h
          refine iC (m_isLet hB1.1 hn hp hr hB1.2.1 hB1.2.2.1 (hMT h) (okT_dec sl hok)) (by decide) ?_
          rintro _ _ ⟨m2, rfl, hTr2, rfl⟩
          refine bI (fun h2 => ?_) (fun h2 => ?_)
          · rw [bb0] at h2
            exact h54 hk0 false m2 _ hTr2 (by rw [h, hk0]; exact h2.symm)
          · rw [bb0, Bool.not_eq_false] at h2
            exact h54 hk0 true m2 _ hTr2 (by rw [h, hk0]; exact h2.symm)
      · obtain ⟨k', rfl⟩ : ∃ k', k = k' + 1 := by
          cases k with
          | zero => exact absurd rfl hc2
          | succ k' => exact ⟨k', rfl⟩
        have hk1 : ¬ nI (k' + 1 + 1) ≤ 1 := by rw [show (1 : Int32) = nI 1 from rfl, nIle (by omega) (by decide)]; omega
        cases hmy : mayS S sl with
        | false =>
          refine go_ev 100 [207] (bI (c := m'.1 0 0 49 ≤ nI i) (fun _ => ?_) (fun _ => bF (c := nI (k' + 1 + 1) ≤ 1) hk1 (bT (c := (0 : Int32) = 0) rfl ?_)))
          · exact h207 false _ _ _ _ _ _ (TrS_rfl _) (by rw [hmy]; rfl)
          · exact h207 false _ _ _ _ _ _ (TrS_rfl _) (by rw [hmy]; rfl)
        | true =>
          exact m_softB hn hp hr hB1 (hMT hmy) (okT_dec sl hok) (fun sl' h' => okSl_dec (hSl sl' h')) h80 i k' (by omega) (fun m2 f x7 v8 v9 v10 h2 hf => h207 f m2 _ _ _ _ _ h2 (by rw [hmy]; exact hf)) (j + 1) i (nI i) v8 v9 v10 (sfU m' sl 1) hi rfl (TrS_rfl _) rfl
  refine ctr_ev 100 [6] rfl rfl ?_
  exact key L.length 0 0 none none none none none m (by omega) rfl (TrS_rfl m) rfl
end SFL
end
section
/-! softer words: the model's slots, and its calls -/
def FSl (m m' : Sd) : Prop := (∀ k i f, ¬ (k = 0 ∧ i = 0 ∧ f = 49) → m'.1 k i f = m.1 k i f) ∧ (∀ k i, k ≠ 47 → k ≠ 48 → m'.2.1 k i = m.2.1 k i) ∧ m'.2.2 = m.2.2
theorem MSl_push {m : Sd} {O : List Slt} (sl : Slt) (hO : MSl m O) {i1 i2 : Nat} (h1 : i1 = O.length) (h2 : i2 = O.length) {x b : Int32} (hx : x = nI sl.1) (hb : b = bi (sl.2 = true)) : MSl (up3 m.1 0 0 49 (m.1 0 0 49 + 1), upA (upA m.2.1 47 0 i1 x) 48 0 i2 b, m.2.2) (O ++ [sl]) := by
  subst h1 h2 hx hb
  refine ⟨?_, fun k sl' hk => ?_⟩
  · show up3 m.1 0 0 49 _ 0 0 49 = _
    rw [up3_s, hO.1, List.length_append]
    exact (nI_succ _).symm
  · show upA (upA m.2.1 47 0 O.length (nI sl.1)) 48 0 O.length (bi (sl.2 = true)) 47 0 k = _ ∧ upA (upA m.2.1 47 0 O.length (nI sl.1)) 48 0 O.length (bi (sl.2 = true)) 48 0 k = _
    rw [upA_n _ _ (fun z => absurd z.1 (by decide)), upA_s, upA_s, upA_n _ _ (fun z => absurd z.1 (by decide))]
    by_cases hkl : k < O.length
    · rw [List.getElem?_append_left hkl] at hk
      rw [pk_un (by omega), pk_un (by omega)]
      exact hO.2 k sl' hk
    · have hlen := (List.getElem?_eq_some_iff.mp hk).1
      rw [List.length_append] at hlen
      have hke : k = O.length := by
        have : ([sl] : List Slt).length = 1 := rfl
        omega
      subst hke
      rw [List.getElem?_append_right (Nat.le_refl _), Nat.sub_self] at hk
      cases hk
      exact ⟨pk_us, pk_us⟩
theorem mRul_last {m : Sd} {p : Nat} : ∀ {R : List (Nat × Nat × Nat)} {r f : Nat}, mRul m p R r f → ∀ {x : Nat × Nat × Nat}, R.getLast? = some x → m.2.1 5 0 (25 * p + r + R.length - 1) = nI x.2.2
  | [], _, _, _, _, h => by cases h
  | [(k, o, e)], r, f, hR, x, h => by
    cases h
    exact hR.1.2.2.2
  | (k, o, e) :: y :: R, r, f, hR, x, h => by
    have h' : (y :: R).getLast? = some x := by
      rw [List.getLast?_cons_cons] at h
      exact h
    have := mRul_last hR.2 h'
    rw [show 25 * p + r + ((k, o, e) :: y :: R).length - 1 = 25 * p + (r + 1) + (y :: R).length - 1 by simp only [List.length_cons]; omega]
    exact this
/-- the last rule ends with the last step -/
def okL (T : Trm) : Prop := ∃ x, T.1.getLast? = some x ∧ x.2.2 = T.2.length
theorem sloF_drop {S : List StpT} {s : Nat} {e : StpT} (h : S[s]? = some e) : sloF (S.drop s) s = sloE s e ++ sloF (S.drop (s + 1)) (s + 1) := by
  have hdr : S.drop s = e :: S.drop (s + 1) := by
    obtain ⟨h1, h2⟩ := List.getElem?_eq_some_iff.mp h
    rw [List.drop_eq_getElem_cons h1, h2]
  rw [hdr]
  rfl
def QFS (m c : Sd) (L : List Slt) : Wd → Option PV → Prop := fun w' r' => ∃ m', w' = (c, m') ∧ FSl m m' ∧ MSl m' L ∧ r' = none
theorem qfi {m c m' : Sd} {L L' : List Slt} (h : FSl m m') (h2 : MSl m' L') (h3 : L' = L) : QFS m c L (c, m') none := ⟨m', rfl, h, by rw [← h3]; exact h2, rfl⟩
section FSL
variable {n p row wd : Nat} {c m : Sd} {T : Trm}
theorem m_findSlots (hp : p < 6) (hT : MT m p T) (hok : okT T) (hl : okL T) (ht : mTld m p T.2) : Ctr 1 143 [vR true 0 0, vI (nI p)] (c, m) (QFS m c (slo T.2)) := by
  obtain ⟨x, hx, hxl⟩ := hl
  have h25 := hok.1
  have h40 := hok.2.1
  have hne : 1 ≤ T.1.length := by
    rcases hT1 : T.1 with _ | ⟨a, R⟩
    · rw [hT1] at hx
      cases hx
    · exact Nat.succ_le_succ (Nat.zero_le _)
  have hlast := mRul_last hT.2.1 hx
  rw [hxl] at hlast
  have key : ∀ (j s : Nat) (y : Int32) (v4 : Option PV) (m' : Sd) (O : List Slt), s + j = T.2.length → y = nI s → FSl m m' → MSl m' O → O.length ≤ 2 * s → slo T.2 = O ++ sloF (T.2.drop s) s → Go 1 143 none 26 [some (vR true 0 0), some (vI (nI p)), some (vI (nI T.2.length)), some (vI y), v4] [] (c, m') (QFS m c (slo T.2)) := by
    intro j
    induction j with
    | zero =>
      intro s y v4 m' O hs hy hF hO hO2 hv
      refine go_ev 100 [26] (bT (c := nI T.2.length ≤ y) (by rw [hy, nIle (by omega) (by omega)]; omega) (qfi hF hO ?_))
      rw [hv, List.drop_eq_nil_of_le (by omega)]
      exact (List.append_nil O).symm
    | succ j ih =>
      intro s y v4 m' O hs hy hF hO hO2 hv
      subst hy
      obtain ⟨e, he⟩ : ∃ e, T.2[s]? = some e := ⟨_, List.getElem?_eq_getElem (show s < T.2.length by omega)⟩
      have hoe := hok.2.2.1 e (List.mem_of_getElem? he)
      rw [sloF_drop he] at hv
      have hix : (64 : Int32) * nI p + nI s = nI (64 * p + s) := by rw [show (64 : Int32) = nI 64 from rfl, pk_mul, nIadd]
      have hic := pk_cl (64 * p + s) hix
      have hin := pk_in (64 * p + s) 384 (by omega) hix
      have hk8 := hoe.1
      have hkk : ∀ m2, FSl m m2 → m2.2.1 6 0 ((64 : Int32) * nI p + nI s).toNatClampNeg = nI e.1 := fun m2 h2 => by
        rw [hic, h2.2.1 6 0 (by decide) (by decide)]
        exact (hT.2.2 s e he).1
      have htt : ∀ m2, FSl m m2 → m2.2.1 11 0 ((64 : Int32) * nI p + nI s).toNatClampNeg = bi (e.2.2.2.2.2 = true) := fun m2 h2 => by
        rw [hic, h2.2.1 11 0 (by decide) (by decide)]
        exact ht s e he
      have hpush : ∀ (m2 : Sd) (i1 i2 : Nat) (x b y : Int32), FSl m m2 → FSl m (up3 m2.1 0 0 49 y, upA (upA m2.2.1 47 0 i1 x) 48 0 i2 b, m2.2.2) := fun m2 i1 i2 x b y h2 => by
        refine ⟨fun k i f hk => ?_, fun k i h47 h48 => ?_, h2.2.2⟩
        · show up3 m2.1 0 0 49 _ k i f = _
          rw [up3_n _ _ hk]
          exact h2.1 k i f hk
        · show upA (upA m2.2.1 47 0 _ _) 48 0 _ _ k i = _
          rw [upA_n _ _ (fun z => h48 z.1), upA_n _ _ (fun z => h47 z.1)]
          exact h2.2.1 k i h47 h48
      have h153 : ∀ (m2 : Sd) (O2 : List Slt), FSl m m2 → MSl m2 O2 → O2.length ≤ 2 * s + 2 → O2 = O ++ sloE s e → Go 1 143 none 153 [some (vR true 0 0), some (vI (nI p)), some (vI (nI T.2.length)), some (vI (nI s)), some (vI ((64 : Int32) * nI p + nI s))] [] (c, m2) (QFS m c (slo T.2)) := by
        intro m2 O2 hF2 hM2 hl2 hO2
        refine go_ev 100 [26] (ih (s + 1) _ _ m2 O2 (by omega) (nI_succ s).symm hF2 hM2 (by omega) ?_)
        rw [hv, hO2, List.append_assoc]
      have h102 : ∀ (m2 : Sd) (O2 : List Slt), FSl m m2 → MSl m2 O2 → O2.length ≤ 2 * s + 1 → O2 = O ++ (if 2 ≤ e.1 ∧ e.1 ≤ 4 then [(s, false)] else []) → Go 1 143 none 102 [some (vR true 0 0), some (vI (nI p)), some (vI (nI T.2.length)), some (vI (nI s)), some (vI ((64 : Int32) * nI p + nI s))] [] (c, m2) (QFS m c (slo T.2)) := by
        intro m2 O2 hF2 hM2 hl2 hO2
        have hskip : ¬ (e.2.2.2.2.2 = true ∧ e.1 ≤ 2) → Go 1 143 none 153 [some (vR true 0 0), some (vI (nI p)), some (vI (nI T.2.length)), some (vI (nI s)), some (vI ((64 : Int32) * nI p + nI s))] [] (c, m2) (QFS m c (slo T.2)) := fun hz => h153 m2 O2 hF2 hM2 (by omega) (by
          unfold sloE
          rw [if_neg hz, List.append_nil]
          exact hO2)
        refine go_ev 100 [26, 153] (dI hin (bI (c := m2.2.1 11 0 ((64 : Int32) * nI p + nI s).toNatClampNeg = 0) (fun h => ?_) (fun h => dI hin (bI (c := (2 : Int32) < m2.2.1 6 0 ((64 : Int32) * nI p + nI s).toNatClampNeg) (fun h2 => ?_) (fun h2 => ?_)))))
        · rw [htt m2 hF2, bb0] at h
          exact hskip (fun z => by rw [h] at z; cases z.1)
        · rw [hkk m2 hF2, show (2 : Int32) = nI 2 from rfl, nIlt (by decide) (by omega)] at h2
          exact hskip (fun z => by omega)
        · rw [htt m2 hF2, bb0, Bool.not_eq_false] at h
          rw [hkk m2 hF2, show (2 : Int32) = nI 2 from rfl, nIlt (by decide) (by omega)] at h2
          have hic2 : (m2.1 0 0 49).toNatClampNeg = O2.length := pk_cl _ hM2.1
          have hin2 : vp_in (m2.1 0 0 49) 128 := pk_in O2.length 128 (by omega) hM2.1
          refine dI hin2 (dI hin2 ?_)
          refine h153 (up3 m2.1 0 0 49 (m2.1 0 0 49 + 1), upA (upA m2.2.1 47 0 (m2.1 0 0 49).toNatClampNeg (nI s)) 48 0 (m2.1 0 0 49).toNatClampNeg (vp_nar .boolean 1), m2.2.2) (O2 ++ [(s, true)]) (hpush _ _ _ _ _ _ hF2) (MSl_push (s, true) hM2 hic2 hic2 rfl rfl) (by rw [List.length_append]; show O2.length + 1 ≤ _; omega) ?_
          unfold sloE
          rw [if_pos (show e.2.2.2.2.2 = true ∧ e.1 ≤ 2 from ⟨h, by omega⟩), hO2, List.append_assoc]
      have h72 : 2 ≤ e.1 ∧ e.1 ≤ 4 → Go 1 143 none 72 [some (vR true 0 0), some (vI (nI p)), some (vI (nI T.2.length)), some (vI (nI s)), some (vI ((64 : Int32) * nI p + nI s))] [] (c, m') (QFS m c (slo T.2)) := by
        intro hk24
        have hic2 : (m'.1 0 0 49).toNatClampNeg = O.length := pk_cl _ hO.1
        have hin2 : vp_in (m'.1 0 0 49) 128 := pk_in O.length 128 (by omega) hO.1
        refine go_ev 100 [26, 102] (dI hin2 (dI hin2 ?_))
        refine h102 (up3 m'.1 0 0 49 (m'.1 0 0 49 + 1), upA (upA m'.2.1 47 0 (m'.1 0 0 49).toNatClampNeg (nI s)) 48 0 (m'.1 0 0 49).toNatClampNeg (vp_nar .boolean 0), m'.2.2) (O ++ [(s, false)]) (hpush _ _ _ _ _ _ hF) (MSl_push (s, false) hO hic2 hic2 rfl rfl) (by rw [List.length_append]; show O.length + 1 ≤ _; omega) ?_
        rw [if_pos hk24]
      refine go_ev 100 [26, 72, 102] (bF (c := nI T.2.length ≤ nI s) (by rw [nIle (by omega) (by omega)]; omega) (dI hin ?_))
      have hkm := hkk m' hF
      refine bI (c := m'.2.1 6 0 ((64 : Int32) * nI p + nI s).toNatClampNeg = 2) (fun h => ?_) (fun h => dI hin (bI (c := m'.2.1 6 0 ((64 : Int32) * nI p + nI s).toNatClampNeg = 3) (fun h3 => ?_) (fun h3 => dI hin (bI (c := m'.2.1 6 0 ((64 : Int32) * nI p + nI s).toNatClampNeg = 4) (fun h4 => ?_) (fun h4 => ?_)))))
      · rw [hkm, show (2 : Int32) = nI 2 from rfl, nIeq (by omega) (by decide)] at h
        exact h72 (by omega)
      · rw [hkm, show (3 : Int32) = nI 3 from rfl, nIeq (by omega) (by decide)] at h3
        exact h72 (by omega)
      · rw [hkm, show (4 : Int32) = nI 4 from rfl, nIeq (by omega) (by decide)] at h4
        exact h72 (by omega)
      · rw [hkm, show (2 : Int32) = nI 2 from rfl, nIeq (by omega) (by decide)] at h
        rw [hkm, show (3 : Int32) = nI 3 from rfl, nIeq (by omega) (by decide)] at h3
        rw [hkm, show (4 : Int32) = nI 4 from rfl, nIeq (by omega) (by decide)] at h4
        refine h102 m' O hF hO (by omega) ?_
        rw [if_neg (by omega), List.append_nil]
  have hpc : (nI p).toNatClampNeg = p := pk_cl p
  have hrl : m.2.1 1 0 (nI p).toNatClampNeg = nI T.1.length := by rw [hpc]; exact hT.1
  have hi5 : (25 : Int32) * nI p + m.2.1 1 0 (nI p).toNatClampNeg - 1 = nI (25 * p + 0 + T.1.length - 1) := by
    rw [hrl, show (25 : Int32) = nI 25 from rfl, pk_mul, nIadd, nI_sub1 (by omega)]
    rfl
  have hic5 := pk_cl (25 * p + 0 + T.1.length - 1) hi5
  have hin5 := pk_in (25 * p + 0 + T.1.length - 1) 150 (by omega) hi5
  have hl5 : m.2.1 5 0 ((25 : Int32) * nI p + m.2.1 1 0 (nI p).toNatClampNeg - 1).toNatClampNeg = nI T.2.length := by rw [hic5]; exact hlast
  have h0 : FSl m (up3 m.1 0 0 49 0, m.2.1, m.2.2) := ⟨fun k i f hk => up3_n _ _ hk, fun _ _ _ _ => rfl, rfl⟩
  have hgo := key T.2.length 0 0 none (up3 m.1 0 0 49 0, m.2.1, m.2.2) [] (by omega) rfl h0 ⟨up3_s m.1 0 0 49 0, fun k sl hk => by cases hk⟩ (Nat.le_refl _) rfl
  rw [← hl5] at hgo
  exact ctr_ev 100 [26] rfl rfl (dI (pk_in p 6 (by omega)) (dI hin5 hgo))
end FSL
/-! one person's softness -/
def SfS (m m' : Sd) : Prop := (∀ k i f, ¬ (k = 0 ∧ i = 0 ∧ f = 49) → m'.1 k i f = m.1 k i f) ∧ (∀ k i, ¬ (38 ≤ k ∧ k ≤ 40) → k ≠ 47 → k ≠ 48 → m'.2.1 k i = m.2.1 k i) ∧ m'.2.2 = m.2.2
theorem SfS_tr {a b c : Sd} (h : SfS a b) (h2 : SfS b c) : SfS a c := ⟨fun k i f h1 => (h2.1 k i f h1).trans (h.1 k i f h1), fun k i h1 h3 h4 => (h2.2.1 k i h1 h3 h4).trans (h.2.1 k i h1 h3 h4), h2.2.2.trans h.2.2⟩
theorem SfS_trs {m m' : Sd} (h : TrS m m') : SfS m m' := ⟨fun k i f _ => by rw [h.1], fun k i h1 _ _ => h.2.1 k i (fun z => h1 (by omega)), h.2.2⟩
theorem SfS_fsl {m m' : Sd} (h : FSl m m') : SfS m m' := ⟨h.1, fun k i _ h1 h2 => h.2.1 k i h1 h2, h.2.2⟩
theorem MT_zero {m m' : Sd} {p : Nat} {T : Trm} (hT : MT m p T) (hp : p < 6) (h64 : T.2.length ≤ 64) (h37 : m.1 0 0 37 = -1) (h37' : m'.1 0 0 37 = nI p) (hA : ∀ k, k ≤ 11 → m'.2.1 k 0 = m.2.1 k 0) (hz : ∀ s, s < 64 → m'.2.1 38 0 s = 0 ∧ m'.2.1 39 0 s = 0) : MT m' p T := by
  refine ⟨by rw [hA 1 (by decide)]; exact hT.1, mRul_arr (fun k hk => hA k (by omega)) hT.2.1, fun s e he => ?_⟩
  have := hT.2.2 s e he
  have hs : s < T.2.length := (List.getElem?_eq_some_iff.mp he).1
  obtain ⟨z1, z2⟩ := hz s (by omega)
  unfold mStp effG effM at this ⊢
  rw [if_neg (by rw [h37]; exact nI_m1 (by omega)), if_neg (by rw [h37]; exact nI_m1 (by omega))] at this
  rw [if_pos h37'.symm, if_pos h37'.symm, z1, z2, hA 6 (by decide), hA 7 (by decide), hA 8 (by decide), hA 9 (by decide), hA 10 (by decide)]
  exact this
theorem MT_soft {m m' : Sd} {p : Nat} {T : Trm} (hT : MT m p T) (hp : p < 6) (h37 : m.1 0 0 37 = -1) (h37' : m'.1 0 0 37 = -1) (hA : ∀ k, k ≤ 11 → m'.2.1 k 0 = m.2.1 k 0) : MT m' p T := by
  refine ⟨by rw [hA 1 (by decide)]; exact hT.1, mRul_arr (fun k hk => hA k (by omega)) hT.2.1, fun s e he => ?_⟩
  have := hT.2.2 s e he
  unfold mStp effG effM at this ⊢
  rw [if_neg (by rw [h37]; exact nI_m1 (by omega)), if_neg (by rw [h37]; exact nI_m1 (by omega))] at this
  rw [if_neg (by rw [h37']; exact nI_m1 (by omega)), if_neg (by rw [h37']; exact nI_m1 (by omega)), hA 6 (by decide), hA 7 (by decide), hA 8 (by decide), hA 9 (by decide), hA 10 (by decide)]
  exact this
def QSf (m c : Sd) (r : Int32) : Wd → Option PV → Prop := fun w' r' => ∃ m', w' = (c, m') ∧ SfS m m' ∧ r' = some (vI r)
theorem qsfi {m c m' : Sd} {r r' : Int32} (h : SfS m m') (h2 : r' = r) : QSf m c r (c, m') (some (vI r')) := ⟨m', rfl, h, by rw [h2]⟩
section SBY
variable {n p row wd : Nat} {c m : Sd} {T : Trm}
theorem m_softBy (hn : n ≤ 6) (hp : p < n) (hr : row < 4 ^ n) (hmn : m.1 0 0 0 = nI n) (h35 : m.1 0 0 35 = -1) (h36 : m.1 0 0 36 = nI wd) (h37 : m.1 0 0 37 = -1) (hT : MT m p T) (hok : okT T) (hl : okL T) (ht : mTld m p T.2) : Ctr 6 147 [vR true 0 0, vI (nI p), vI (nI row)] (c, m) (QSf m c (optI (sfN n p row T))) := by
  obtain ⟨R, S⟩ := T
  have h40 : S.length ≤ 40 := hok.2.1
  have h80 : (slo S).length ≤ 80 := by
    have h1 := sloF_len S 0
    unfold slo
    omega
  refine ctr_ev 100 [18] rfl rfl (iC (m_isLet (p := p) (R := R) (S := S) hmn hn hp hr h35 h36 hT hok) (by decide) ?_)
  rintro _ _ ⟨m1, rfl, hTr1, rfl⟩
  refine bI (fun h => ?_) (fun h => ?_)
  · rw [bb0] at h
    have hf0 : sfN n p row (R, S) = fst (fun k => sfF (chS n p row R) k (slo S) S) 3 1 := by
      unfold sfN
      conv => lhs; unfold fst
      rw [if_neg]
      rw [Bool.not_eq_true]
      exact h
    refine iC (m_findSlots (T := (R, S)) (by omega) (MT_trs hTr1 hT) hok hl (fun s e he => by rw [hTr1.2.1 11 0 (by decide)]; exact ht s e he)) (by decide) ?_
    rintro _ _ ⟨m2, rfl, hF2, hM2, rfl⟩
    have hS2 : SfS m m2 := SfS_tr (SfS_trs hTr1) (SfS_fsl hF2)
    /- the counts -/
    have kC : ∀ (m3 : Sd), SBs n p wd (slo S) m3 → MT m3 p (R, S) → (∀ m4, TrS m3 m4 → SfS m (up3 m4.1 0 0 37 (-1), m4.2.1, m4.2.2)) → ∀ (j k : Nat) (x f : Int32) (m4 : Sd), k + j = 3 → x = nI (k + 1) → f = -1 → TrS m3 m4 → sfN n p row (R, S) = fst (fun k => sfF (chS n p row R) k (slo S) S) j (k + 1) → Go 6 147 none 54 [some (vR true 0 0), some (vI (nI p)), some (vI (nI row)), some (vI f), some (vI x)] [] (c, m4) (QSf m c (optI (sfN n p row (R, S)))) := by
      intro m3 hB3 hT3 hSf j
      induction j with
      | zero =>
        intro k x f m4 hk hx hf h4 hv
        refine go_ev 100 [54] (bT (c := (4 : Int32) ≤ x) (by rw [hx, show k = 3 by omega]; decide) (qsfi (hSf m4 h4) ?_))
        rw [hv, hf]
        rfl
      | succ j ih =>
        intro k x f m4 hk hx hf h4 hv
        subst hx hf
        refine go_ev 100 [54] (bF (c := (4 : Int32) ≤ nI (k + 1)) (by rw [show (4 : Int32) = nI 4 from rfl, nIle (by decide) (by omega)]; omega) (bF (c := (0 : Int32) ≤ -1) (by decide) ?_))
        refine iC (m_doesSoft hn hp hr (SBs_trs h4 hB3) (MT_trs h4 hT3) hok (slo_ok S) h80 k (by omega)) (by decide) ?_
        rintro _ _ ⟨m5, rfl, h5, rfl⟩
        have h45 := TrS_tr h4 h5
        refine bI (fun hz => ?_) (fun hz => ?_)
        · rw [bb0] at hz
          refine ih (k + 1) _ _ m5 (by omega) (nI_succ _).symm rfl h45 ?_
          rw [hv]
          conv => lhs; unfold fst
          rw [if_neg]
          rw [Bool.not_eq_true]
          exact hz
        · rw [bb0, Bool.not_eq_false] at hz
          have hr' : nI (k + 1) = optI (sfN n p row (R, S)) := by
            rw [hv]
            unfold fst
            rw [if_pos hz]
            rfl
          exact go_ev 100 [] (bI (c := (4 : Int32) ≤ nI (k + 1) + 1) (fun _ => qsfi (hSf m5 h45) hr') (fun _ => bT (c := (0 : Int32) ≤ nI (k + 1)) (nI_pos' (by omega)) (qsfi (hSf m5 h45) hr')))
    /- wiping -/
    have kZ : ∀ (j k : Nat) (x : Int32) (m' : Sd), k + j = 64 → x = nI k → (∀ k i f, m'.1 k i f = m2.1 k i f) → (∀ k i, ¬ (38 ≤ k ∧ k ≤ 39) → m'.2.1 k i = m2.2.1 k i) → m'.2.2 = m2.2.2 → (∀ s, s < k → m'.2.1 38 0 s = 0 ∧ m'.2.1 39 0 s = 0) → Go 6 147 none 18 [some (vR true 0 0), some (vI (nI p)), some (vI (nI row)), some (vI x), none] [] (c, m') (QSf m c (optI (sfN n p row (R, S)))) := by
      intro j
      induction j with
      | zero =>
        intro k x m' hk hx hf ha hr' hz
        refine go_ev 100 [18, 54] (bT (c := (64 : Int32) ≤ x) (by rw [hx, show k = 64 by omega]; decide) ?_)
        have hA : ∀ k, ¬ (38 ≤ k ∧ k ≤ 40) → k ≠ 47 → k ≠ 48 → ∀ i, m'.2.1 k i = m.2.1 k i := fun k h1 h2 h3 i => by
          rw [ha k i (by omega)]
          exact hS2.2.1 k i h1 h2 h3
        have hfd : ∀ f, f ≠ 49 → f ≠ 37 → up3 m'.1 0 0 37 (nI p) 0 0 f = m.1 0 0 f := fun f h49 hf37 => by
          rw [up3_n _ _ (fun z => hf37 z.2.2), hf]
          exact hS2.1 0 0 f (fun z => h49 z.2.2)
        refine kC (up3 m'.1 0 0 37 (nI p), m'.2.1, m'.2.2) ⟨(hfd 0 (by decide) (by decide)).trans hmn, (hfd 35 (by decide) (by decide)).trans h35, (hfd 36 (by decide) (by decide)).trans h36, up3_s m'.1 0 0 37 (nI p), ?_, ?_⟩ (MT_zero hT (by omega) (by show S.length ≤ 64; omega) h37 (up3_s m'.1 0 0 37 (nI p)) (fun k hk => hA k (by omega) (by omega) (by omega) 0) (fun s hs => hz s (by omega))) (fun m4 h4 => ?_) 3 0 _ _ _ rfl rfl rfl (TrS_rfl _) hf0
        · show up3 m'.1 0 0 37 (nI p) 0 0 49 = _
          rw [up3_n _ _ (fun z => absurd z.2.2 (by decide)), hf]
          exact hM2.1
        · intro k sl hk
          show m'.2.1 47 0 k = _ ∧ m'.2.1 48 0 k = _
          rw [ha 47 0 (by decide), ha 48 0 (by decide)]
          exact hM2.2 k sl hk
        · refine ⟨fun k i f hk => ?_, fun k i h1 h2 h3 => ?_, ?_⟩
          · show up3 m4.1 0 0 37 (-1) k i f = _
            by_cases h37k : k = 0 ∧ i = 0 ∧ f = 37
            · obtain ⟨rfl, rfl, rfl⟩ := h37k
              rw [up3_s]
              exact h37.symm
            · rw [up3_n _ _ h37k, h4.1]
              show up3 m'.1 0 0 37 (nI p) k i f = _
              rw [up3_n _ _ h37k, hf]
              exact hS2.1 k i f hk
          · show m4.2.1 k i = _
            rw [h4.2.1 k i (by omega)]
            exact hA k h1 h2 h3 i
          · show m4.2.2 = _
            rw [h4.2.2]
            show m'.2.2 = _
            rw [hr']
            exact hS2.2.2
      | succ j ih =>
        intro k x m' hk hx hf ha hr' hz
        subst hx
        have hkc : (nI k).toNatClampNeg = k := pk_cl k
        refine go_ev 100 [18, 54] (bF (c := (64 : Int32) ≤ nI k) (by rw [show (64 : Int32) = nI 64 from rfl, nIle (by decide) (by omega)]; omega) ?_)
        refine dI (pk_in k 64 (by omega)) (dI (pk_in k 64 (by omega)) ?_)
        refine ih (k + 1) _ (m'.1, upA (upA m'.2.1 38 0 (nI k).toNatClampNeg 0) 39 0 (nI k).toNatClampNeg 0, m'.2.2) (by omega) (nI_succ k).symm hf (fun k' i h => ?_) hr' (fun s hs => ?_)
        · show upA (upA m'.2.1 38 0 _ 0) 39 0 _ 0 k' i = _
          rw [upA_n _ _ (fun z => h (by omega)), upA_n _ _ (fun z => h (by omega))]
          exact ha k' i h
        · show upA (upA m'.2.1 38 0 (nI k).toNatClampNeg 0) 39 0 (nI k).toNatClampNeg 0 38 0 s = 0 ∧ upA (upA m'.2.1 38 0 (nI k).toNatClampNeg 0) 39 0 (nI k).toNatClampNeg 0 39 0 s = 0
          rw [upA_n _ _ (fun z => absurd z.1 (by decide)), upA_s, upA_s, upA_n _ _ (fun z => absurd z.1 (by decide)), hkc]
          by_cases hsk : s = k
          · rw [hsk, pk_us, pk_us]
            exact ⟨rfl, rfl⟩
          · rw [pk_un hsk, pk_un hsk]
            exact hz s (by omega)
    exact kZ 64 0 0 m2 (by omega) rfl (fun _ _ _ => rfl) (fun _ _ _ => rfl) rfl (fun s hs => absurd hs (by omega))
  · rw [bb0, Bool.not_eq_false] at h
    refine qsfi (SfS_trs hTr1) ?_
    unfold sfN fst
    rw [if_pos (show sfF (chS n p row (R, S).1) 0 (slo (R, S).2) (R, S).2 = true from h)]
    rfl
end SBY
section MSO
variable {n : Nat} {Ts : Nat → Trm} {Y : Sd → Prop} {c m : Sd} {wd : Nat}
theorem MV_sfs {m m' : Sd} (hY : ∀ m m', SfS m m' → Y m → Y m') (h : SfS m m') (hV : MV n Ts Y none wd m) : MV n Ts Y none wd m' := by
  obtain ⟨⟨a1, a2, a3, a4, a5⟩, h2, h3⟩ := hV
  have e : ∀ f, f ≠ 49 → m'.1 0 0 f = m.1 0 0 f := fun f hf => h.1 0 0 f (fun z => hf z.2.2)
  have e37 := (e 37 (by decide)).trans a5
  exact ⟨⟨(e 0 (by decide)).trans a1, (e 35 (by decide)).trans a2, a3, (e 36 (by decide)).trans a4, e37⟩, fun p hp => MT_soft (h2 p hp) hp a5 e37 (fun k hk => h.2.1 k 0 (by omega) (by omega) (by omega)), hY _ _ h h3⟩
theorem m_soft (h1 : 1 ≤ n) (h6 : n ≤ 6) (hok : ∀ p, okT (Ts p)) (hokl : ∀ p, okL (Ts p)) (hY : ∀ m m', SfS m m' → Y m → Y m') (hYt : ∀ m, Y m → ∀ p, p < 6 → mTld m p (Ts p).2) (hm : MV n Ts Y none wd m) (p r : Int32) : Ctr 7 148 [vR true 0 0, vI p, vI r] (c, m) (PM (MV n Ts Y none wd) c (sSoft n Ts p r)) := by
  have hn : m.1 0 0 0 = nI n := hm.1.1
  have hr6 := pow4_le h6
  have hby : ∀ (m : Sd) (q row : Nat), MV n Ts Y none wd m → q < n → row < 4 ^ n → Ctr 6 147 [vR true 0 0, vI (nI q), vI (nI row)] (c, m) (QSf m c (optI (sfN n q row (Ts q)))) := fun m q row hm hq hr => by
    obtain ⟨⟨a1, a2, a3, a4, a5⟩, h2, h3⟩ := hm
    exact m_softBy h6 hq hr a1 a2 a4 a5 (h2 q (by omega)) (hok q) (hokl q) (hYt m h3 q (by omega))
  have hrow : p = -1 ∨ inP n p → Go 7 148 none 17 [some (vR true 0 0), some (vI p), some (vI r), none, none, none] [] (c, m) (PM (MV n Ts Y none wd) c (sSoft n Ts p r)) := by
    intro hp
    refine go_ev 100 [46] (iF (m_noRow h6 hn r) (by decide) (bI (fun h => ?_) (fun h => ?_)))
    · rw [bi_0, Classical.not_not] at h
      rw [sSoft, if_pos hp, if_pos h]
      obtain ⟨hk2, he2⟩ := clampP (pow4_pos n) (by omega) h
      generalize tN r = row at hk2 he2 ⊢
      subst he2
      refine bI (c := p = -1) (fun hm1 => ?_) (fun hm1 => ?_)
      · rw [if_pos hm1]
        have key : ∀ (j k a : Nat) (x ax : Int32) (v5 : Option PV) (m : Sd), k + j = n → x = nI k → ax = nI a → MV n Ts Y none wd m → sfA (fun q => sfN n q row (Ts q)) n 0 0 = sfA (fun q => sfN n q row (Ts q)) j k a → Go 7 148 none 46 [some (vR true 0 0), some (vI p), some (vI (nI row)), some (vI ax), some (vI x), v5] [] (c, m) (PM (MV n Ts Y none wd) c (optI (sfA (fun q => sfN n q row (Ts q)) n 0 0))) := by
          intro j
          induction j with
          | zero =>
            intro k a x ax v5 m hk hx ha hm hf
            refine go_ev 100 [46] (bT (c := m.1 0 0 0 ≤ x) (by rw [hm.1.1, hx, nIle (by omega) (by omega)]; omega) (mqi hm ?_))
            rw [hf, ha]
            rfl
          | succ j ih =>
            intro k a x ax v5 m hk hx ha hm hf
            subst hx ha
            refine go_ev 100 [46] (bF (c := m.1 0 0 0 ≤ nI k) (by rw [hm.1.1, nIle (by omega) (by omega)]; omega) ?_)
            refine iC (hby m k row hm (by omega) hk2) (by decide) ?_
            rintro _ _ ⟨m', rfl, hS, rfl⟩
            have hm' := MV_sfs hY hS hm
            have hop := opt_ge (o := sfN n k row (Ts k)) (fun q hq => by
              have := sfN_lt hq
              omega)
            refine bI (c := (0 : Int32) ≤ optI (sfN n k row (Ts k))) (fun h => ?_) (fun h => ?_)
            · rw [hop] at h
              obtain ⟨v, hv⟩ := Option.isSome_iff_exists.mp h
              have hgo := ih (k + 1) (a + v) (nI k + 1) (nI a + optI (sfN n k row (Ts k))) (some (vI (optI (sfN n k row (Ts k))))) m' (by omega) (nI_succ k).symm (by rw [hv]; exact nIadd a v) hm' (by
                rw [hf]
                conv => lhs; unfold sfA
                rw [hv])
              exact hgo
            · rw [hop] at h
              refine mqi hm' ?_
              rw [hf]
              unfold sfA
              cases hq : sfN n k row (Ts k) with
              | none => rfl
              | some v =>
                rw [hq] at h
                exact absurd rfl h
        exact key n 0 0 0 0 none m (by omega) rfl rfl hm rfl
      · rw [if_neg hm1]
        obtain ⟨hk1, he1⟩ := clampP h1 (by omega) (hp.resolve_left hm1)
        generalize tN p = q at hk1 he1 ⊢
        subst he1
        refine iC (hby m q row hm hk1 hk2) (by decide) ?_
        rintro _ _ ⟨m', rfl, hS, rfl⟩
        exact mqi (MV_sfs hY hS hm) rfl
    · rw [bi_0, Classical.not_not] at h
      refine mqi hm ?_
      rw [sSoft, if_pos hp, if_neg h]
  refine ctr_ev 100 [17] rfl rfl (bI (c := p = -1) (fun h => hrow (Or.inl h)) (fun h => ?_))
  refine iF (m_noPerson hn p) (by decide) (bI (fun h2 => ?_) (fun h2 => ?_))
  · rw [bi_0, Classical.not_not] at h2
    exact hrow (Or.inr h2)
  · rw [bi_0, Classical.not_not] at h2
    refine mqi hm ?_
    rw [sSoft, if_neg (fun z => z.elim h h2)]
end MSO
end
section
/-! texts: the bytes tx below L; runs, words, numbers -/
def runF (tx : Nat → Nat) (L : Nat) (P : Nat → Bool) : Nat → Nat → Nat
  | 0, i => i
  | f + 1, i => if i < L ∧ P (tx i) = true then runF tx L P f (i + 1) else i
def run (tx : Nat → Nat) (L : Nat) (P : Nat → Bool) (i : Nat) : Nat := runF tx L P (L - i) i
section RUN
variable {tx : Nat → Nat} {L : Nat} {P : Nat → Bool} {i j : Nat}
theorem run_go (h : i < L) (hp : P (tx i) = true) : run tx L P i = run tx L P (i + 1) := by
  unfold run
  obtain ⟨d, hd⟩ : ∃ d, L - i = d + 1 := ⟨L - i - 1, by omega⟩
  rw [hd, show L - (i + 1) = d by omega]
  conv => lhs; unfold runF
  rw [if_pos ⟨h, hp⟩]
theorem run_stop (h : ¬ (i < L ∧ P (tx i) = true)) : run tx L P i = i := by
  unfold run
  cases L - i with
  | zero => rfl
  | succ d =>
    unfold runF
    rw [if_neg h]
theorem runF_ge : ∀ (f i : Nat), i ≤ runF tx L P f i
  | 0, _ => Nat.le_refl _
  | f + 1, i => by
    unfold runF
    split
    · exact Nat.le_trans (Nat.le_succ i) (runF_ge f (i + 1))
    · exact Nat.le_refl _
theorem run_ge (i : Nat) : i ≤ run tx L P i := runF_ge _ _
theorem runF_le : ∀ (f i : Nat), i ≤ L → runF tx L P f i ≤ L
  | 0, _, h => h
  | f + 1, i, h => by
    unfold runF
    split
    · rename_i h2
      exact runF_le f (i + 1) h2.1
    · exact h
theorem run_le (h : i ≤ L) : run tx L P i ≤ L := runF_le _ _ h
theorem runF_in : ∀ (f i j : Nat), i ≤ j → j < runF tx L P f i → j < L ∧ P (tx j) = true
  | 0, i, j, h1, h2 => absurd h2 (by unfold runF; omega)
  | f + 1, i, j, h1, h2 => by
    unfold runF at h2
    split at h2
    · rename_i h3
      rcases Nat.lt_or_ge i j with h4 | h4
      · exact runF_in f (i + 1) j h4 h2
      · rw [show j = i by omega]
        exact h3
    · omega
theorem run_in (h1 : i ≤ j) (h2 : j < run tx L P i) : j < L ∧ P (tx j) = true := runF_in _ _ _ h1 h2
theorem runF_end : ∀ (f i : Nat), L ≤ f + i → ¬ (runF tx L P f i < L ∧ P (tx (runF tx L P f i)) = true)
  | 0, i, h => fun z => by
    have : i < L := z.1
    omega
  | f + 1, i, h => by
    unfold runF
    split
    · exact runF_end f (i + 1) (by omega)
    · assumption
theorem run_end (i : Nat) : ¬ (run tx L P i < L ∧ P (tx (run tx L P i)) = true) := runF_end _ _ (by omega)
theorem run_pos (h : i < L) (hp : P (tx i) = true) : i + 1 ≤ run tx L P i := by
  rw [run_go h hp]
  exact run_ge _
theorem run_id (i : Nat) : run tx L P (run tx L P i) = run tx L P i := run_stop (run_end i)
theorem run_at {e : Nat} (h1 : i ≤ e) (h2 : ∀ j, i ≤ j → j < e → j < L ∧ P (tx j) = true) (h3 : ¬ (e < L ∧ P (tx e) = true)) : run tx L P i = e := by
  rcases Nat.lt_trichotomy (run tx L P i) e with h | h | h
  · exact absurd (h2 _ (run_ge i) h) (run_end i)
  · exact h
  · exact absurd (run_in h1 h) h3
end RUN
def blB (b : Nat) : Bool := decide (b = 32)
def ltB (b : Nat) : Bool := decide (97 ≤ b ∧ b ≤ 122)
def dgB (b : Nat) : Bool := decide (48 ≤ b ∧ b ≤ 57)
def knO (b : Nat) : Nat := if b = 32 then 0 else if ltB b = true then 1 else if dgB b = true then 2 else 3
def sk (tx : Nat → Nat) (L i : Nat) : Nat := run tx L blB i
def wd (tx : Nat → Nat) (L i : Nat) : Nat := run tx L ltB i
def dg (tx : Nat → Nat) (L i : Nat) : Nat := run tx L dgB i
def knd (tx : Nat → Nat) (L i : Nat) : Nat := if i < L then knO (tx i) else 4
def tnd (tx : Nat → Nat) (L i : Nat) : Nat := if i < L then (if knO (tx i) = 1 then wd tx L i else if knO (tx i) = 2 then dg tx L i else i + 1) else L
def pos (tx : Nat → Nat) (L : Nat) : Nat → Nat
  | 0 => sk tx L 0
  | k + 1 => sk tx L (tnd tx L (pos tx L k))
def vld (tx : Nat → Nat) (L k : Nat) : Prop := ∀ j, j < k → pos tx L j < L
theorem knO_lt (b : Nat) : knO b < 4 := by
  unfold knO
  split
  · omega
  · split
    · omega
    · split <;> omega
theorem knO_1 {b : Nat} : knO b = 1 ↔ ltB b = true := by
  unfold knO ltB
  split
  · rename_i h
    subst h
    decide
  · split
    · rename_i h
      exact ⟨fun _ => h, fun _ => rfl⟩
    · rename_i h
      constructor
      · intro z
        split at z <;> omega
      · intro z
        exact absurd z h
theorem knO_2 {b : Nat} : knO b = 2 ↔ dgB b = true := by
  unfold knO ltB dgB
  simp only [decide_eq_true_eq]
  split
  · constructor <;> intro z <;> omega
  · split
    · constructor <;> intro z <;> omega
    · split
      · rename_i h
        exact ⟨fun _ => h, fun _ => rfl⟩
      · rename_i h
        exact ⟨fun z => absurd z (by decide), fun z => absurd z h⟩
theorem knO_0 {b : Nat} : knO b = 0 ↔ blB b = true := by
  unfold knO blB
  simp only [decide_eq_true_eq]
  split
  · rename_i h
    exact ⟨fun _ => h, fun _ => rfl⟩
  · rename_i h
    constructor
    · intro z
      split at z
      · omega
      · split at z <;> omega
    · intro z
      exact absurd z h
section TOK
variable {tx : Nat → Nat} {L : Nat} {i k : Nat}
theorem sk_ge (i : Nat) : i ≤ sk tx L i := run_ge _
theorem sk_le (h : i ≤ L) : sk tx L i ≤ L := run_le h
theorem sk_id (i : Nat) : sk tx L (sk tx L i) = sk tx L i := run_id _
theorem sk_nb (i : Nat) (h : sk tx L i < L) : knO (tx (sk tx L i)) ≠ 0 := fun z => run_end i ⟨h, knO_0.mp z⟩
theorem tnd_gt (h : i < L) : i < tnd tx L i ∧ tnd tx L i ≤ L := by
  unfold tnd
  rw [if_pos h]
  split
  · rename_i h1
    exact ⟨run_pos h (knO_1.mp h1), run_le (by omega)⟩
  · split
    · rename_i h1
      exact ⟨run_pos h (knO_2.mp h1), run_le (by omega)⟩
    · omega
theorem tnd_le (h : i ≤ L) : tnd tx L i ≤ L := by
  rcases Nat.lt_or_ge i L with h1 | h1
  · exact (tnd_gt h1).2
  · unfold tnd
    rw [if_neg (by omega)]
    exact Nat.le_refl _
theorem pos_le : ∀ k, pos tx L k ≤ L
  | 0 => sk_le (Nat.zero_le _)
  | k + 1 => sk_le (tnd_le (pos_le k))
theorem pos_sk : ∀ k, sk tx L (pos tx L k) = pos tx L k
  | 0 => sk_id _
  | k + 1 => sk_id _
theorem pos_step (h : pos tx L k < L) : pos tx L k < pos tx L (k + 1) := Nat.lt_of_lt_of_le (tnd_gt h).1 (sk_ge _)
theorem vld_succ (h : vld tx L k) (h2 : pos tx L k < L) : vld tx L (k + 1) := fun j hj => by
  rcases Nat.lt_or_ge j k with h3 | h3
  · exact h j h3
  · rw [show j = k by omega]
    exact h2
theorem vld_ge : ∀ k, vld tx L k → k ≤ pos tx L k
  | 0, _ => Nat.zero_le _
  | k + 1, h => by
    have h1 := vld_ge k (fun j hj => h j (by omega))
    have h2 := pos_step (h k (by omega))
    omega
theorem vld_le (h : vld tx L k) : k ≤ L := Nat.le_trans (vld_ge k h) (pos_le k)
end TOK
/-! words by number, as the class's constants stand -/
def wB (q : Nat) : List Nat := [[101, 108, 115, 101], [105, 102], [108, 101, 97, 115, 116], [109, 111, 115, 116], [97, 115], [97, 110, 100], [111, 114], [110, 111, 116], [119, 104, 111], [103, 105, 118, 101, 115], [97, 108, 108], [103, 105, 118, 101], [97, 110, 121], [115, 117, 109], [100, 97, 121], [111, 102], [116, 111]].getD q []
theorem wB_len : ∀ q, q < 17 → sLen q = (wB q).length ∧ 2 ≤ (wB q).length ∧ (wB q).length ≤ 5 := by decide +kernel
theorem wB_ch : ∀ q, q < 17 → ∀ j, j < 5 → j < (wB q).length → sCh q j = nI ((wB q).getD j 0) ∧ (wB q).getD j 0 < 123 := by decide +kernel
def chW (tx : Nat → Nat) (i : Nat) : List Nat → Nat → Bool
  | [], _ => true
  | b :: W, k => decide (tx (i + k) = b) && chW tx i W (k + 1)
def isW (tx : Nat → Nat) (L q i : Nat) : Bool := decide (wd tx L i = i + (wB q).length) && chW tx i (wB q) 0
def isS (tx : Nat → Nat) (L b i : Nat) : Bool := decide (i < L) && decide (tx i = b)
theorem isW_lt {tx : Nat → Nat} {L q i : Nat} (hq : q < 17) (h : isW tx L q i = true) : i < L ∧ knO (tx i) = 1 ∧ wd tx L i = i + (wB q).length ∧ tnd tx L i = wd tx L i := by
  unfold isW at h
  rw [Bool.and_eq_true, decide_eq_true_eq] at h
  have h2 := (wB_len q hq).2.1
  have h3 : i < L ∧ ltB (tx i) = true := run_in (j := i) (Nat.le_refl _) (by
    have : wd tx L i = run tx L ltB i := rfl
    omega)
  refine ⟨h3.1, knO_1.mpr h3.2, h.1, ?_⟩
  unfold tnd
  rw [if_pos h3.1, if_pos (knO_1.mpr h3.2)]
/-! the pure reader: faults (number, place) on the left -/
abbrev Rs (α : Type) : Type := (Nat × Nat) ⊕ α
def nuV (tx : Nat → Nat) (L i : Nat) : Nat := if dg tx L i = i + 1 then tx i - 48 else 10 * (tx i - 48) + (tx (i + 1) - 48)
def pNum (tx : Nat → Nat) (L lo hi i : Nat) : Rs (Nat × Nat) := if i < L ∧ dgB (tx i) = true then (if dg tx L i ≤ i + 2 ∧ lo ≤ nuV tx L i ∧ nuV tx L i ≤ hi then .inr (nuV tx L i, sk tx L (dg tx L i)) else .inl (2, i)) else .inl (1, i)
def nx (tx : Nat → Nat) (L i : Nat) : Nat := sk tx L (wd tx L i)
def pGive (tx : Nat → Nat) (L q i : Nat) : Rs (Option Nat × Nat) := if isW tx L q i = true then (match pNum tx L 0 3 (nx tx L i) with
    | .inl x => .inl x
    | .inr (v, j) => .inr (some v, j)) else .inr (none, i)
def pRange (tx : Nat → Nat) (L i : Nat) : Rs (Nat × Nat × Nat) := if isW tx L 15 i = true then (match pNum tx L 0 5 (nx tx L i) with
    | .inl x => .inl x
    | .inr (f, j) => if isW tx L 16 j = true then (match pNum tx L 0 5 (nx tx L j) with
        | .inl x => .inl x
        | .inr (t, l) => if t < f then .inl (3, nx tx L j) else .inr (f, t, l)) else .inl (1, j)) else .inr (0, 5, i)
def giv (g : Option Nat) : Nat := match g with
  | some v => v
  | none => 1
def pSpan (tx : Nat → Nat) (L k many i : Nat) : Rs (StpT × Nat) := match pRange tx L i with
  | .inl x => .inl x
  | .inr (f, t, j) => match pGive tx L 11 j with
    | .inl x => .inl x
    | .inr (g, l) => .inr ((k, f, t, many, giv g, g.isSome), l)
def pCond (tx : Nat → Nat) (L i : Nat) : Rs (StpT × Nat) :=
  if isW tx L 8 i = true then (match pNum tx L 0 5 (nx tx L i) with
    | .inl x => .inl x
    | .inr (f, j) => match pGive tx L 9 j with
      | .inl x => .inl x
      | .inr (g, l) => .inr ((0, f, 5, 1, giv g, g.isSome), l))
  else if isW tx L 10 i = true then pSpan tx L 1 1 (nx tx L i)
  else if isW tx L 12 i = true then (match pNum tx L 0 6 (nx tx L i) with
    | .inl x => .inl x
    | .inr (v, j) => pSpan tx L 2 v j)
  else if isW tx L 13 i = true then (match pNum tx L 0 18 (nx tx L i) with
    | .inl x => .inl x
    | .inr (v, j) => .inr ((3, 0, 5, v, 1, false), j))
  else if isW tx L 14 i = true then (match pNum tx L 1 9 (nx tx L i) with
    | .inl x => .inl x
    | .inr (v, j) => .inr ((4, 0, 5, v, 1, false), j))
  else .inl (1, i)
def opS (k : Nat) : StpT := (k, 0, 0, 1, 1, false)
/-- all that 'and' joins, behind what stands: the steps so far, in fuel -/
def pAnd (tx : Nat → Nat) (L : Nat) (one : Nat → Rs (List StpT × Nat)) : Nat → List StpT → Nat → Rs (List StpT × Nat)
  | 0, S, i => .inr (S, i)
  | f + 1, S, i => if isW tx L 5 i = true then (match one (nx tx L i) with
      | .inl x => .inl x
      | .inr (A, j) => pAnd tx L one f (S ++ A ++ [opS 6]) j) else .inr (S, i)
def pTrm (tx : Nat → Nat) (L : Nat) (one : Nat → Rs (List StpT × Nat)) (i : Nat) : Rs (List StpT × Nat) := match one i with
  | .inl x => .inl x
  | .inr (A, j) => pAnd tx L one (L + 1) A j
def pOrs (tx : Nat → Nat) (L : Nat) (one : Nat → Rs (List StpT × Nat)) : Nat → List StpT → Nat → Rs (List StpT × Nat)
  | 0, S, i => .inr (S, i)
  | f + 1, S, i => if isW tx L 6 i = true then (match pTrm tx L one (nx tx L i) with
      | .inl x => .inl x
      | .inr (A, j) => pOrs tx L one f (S ++ A ++ [opS 7]) j) else .inr (S, i)
def pSome (tx : Nat → Nat) (L : Nat) (one : Nat → Rs (List StpT × Nat)) (i : Nat) : Rs (List StpT × Nat) := match pTrm tx L one i with
  | .inl x => .inl x
  | .inr (A, j) => pOrs tx L one (L + 1) A j
def pBase (tx : Nat → Nat) (L i : Nat) : Rs (List StpT × Nat) := match pCond tx L i with
  | .inl x => .inl x
  | .inr (e, j) => .inr ([e], j)
/-- one condition, with e levels left -/
def pOne (tx : Nat → Nat) (L : Nat) : Nat → Nat → Rs (List StpT × Nat)
  | 0, i => if isW tx L 7 i = true ∨ isS tx L 40 i = true then .inl (4, i) else pBase tx L i
  | e + 1, i => if isW tx L 7 i = true then (match pOne tx L e (nx tx L i) with
      | .inl x => .inl x
      | .inr (A, j) => .inr (A ++ [opS 5], j))
    else if isS tx L 40 i = true then (match pSome tx L (pOne tx L e) (sk tx L (i + 1)) with
      | .inl x => .inl x
      | .inr (A, j) => if isS tx L 41 j = true then .inr (A, sk tx L (j + 1)) else .inl (1, j))
    else pBase tx L i
def pMuch (tx : Nat → Nat) (L i : Nat) : Rs (Nat × Nat × Nat) :=
  if isW tx L 2 i = true then .inr (2, 0, nx tx L i)
  else if isW tx L 3 i = true then .inr (3, 0, nx tx L i)
  else if isW tx L 4 i = true then (match pNum tx L 0 5 (nx tx L i) with
    | .inl x => .inl x
    | .inr (v, j) => .inr (1, v, j))
  else (match pNum tx L 0 3 i with
    | .inl x => .inl x
    | .inr (v, j) => .inr (0, v, j))
/-- a rule: how much, of whom, its steps, the next place -/
def pRule (tx : Nat → Nat) (L i : Nat) : Rs (Nat × Nat × List StpT × Nat) := match pMuch tx L i with
  | .inl x => .inl x
  | .inr (k, o, j) => if isW tx L 1 j = true then (match pSome tx L (pOne tx L 6) (nx tx L j) with
      | .inl x => .inl x
      | .inr (A, l) => .inr (k, o, A, l)) else .inr (k, o, [], j)
def pRules (tx : Nat → Nat) (L : Nat) : Nat → Trm → Nat → Rs Trm
  | 0, T, _ => .inr T
  | f + 1, T, i => match pRule tx L i with
    | .inl x => .inl x
    | .inr (k, o, A, j) => if isW tx L 0 j = true then pRules tx L f (T.1 ++ [(k, o, (T.2 ++ A).length)], T.2 ++ A) (nx tx L j)
      else if j < L then .inl (1, j) else .inr (T.1 ++ [(k, o, (T.2 ++ A).length)], T.2 ++ A)
def pText (tx : Nat → Nat) (L : Nat) : Rs Trm := pRules tx L (L + 1) ([], []) (sk tx L 0)
end
section
/-! the class: a text into tokens -/
section TKN
variable {tx : Nat → Nat} {L : Nat} {a t : Nat}
theorem tnd_mid {s j : Nat} (hs : s < L) (h1 : s < j) (h2 : j < tnd tx L s) : (knO (tx s) = 1 ∨ knO (tx s) = 2) ∧ knO (tx j) = knO (tx s) ∧ knO (tx (j - 1)) = knO (tx s) := by
  unfold tnd at h2
  rw [if_pos hs] at h2
  split at h2
  · rename_i h
    rw [h]
    exact ⟨Or.inl rfl, knO_1.mpr (run_in (L := L) (by omega) h2).2, knO_1.mpr (run_in (L := L) (i := s) (j := j - 1) (by omega) (by unfold wd at h2; omega)).2⟩
  · split at h2
    · rename_i h
      rw [h]
      exact ⟨Or.inr rfl, knO_2.mpr (run_in (L := L) (by omega) h2).2, knO_2.mpr (run_in (L := L) (i := s) (j := j - 1) (by omega) (by unfold dg at h2; omega)).2⟩
    · omega
theorem tnd_last {s : Nat} (hs : s < L) (h : tnd tx L s < L) (hk : knO (tx s) = 1 ∨ knO (tx s) = 2) : knO (tx (tnd tx L s)) ≠ knO (tx s) := by
  unfold tnd at h ⊢
  rw [if_pos hs] at h ⊢
  split at h
  · rename_i h1
    rw [if_pos h1, h1]
    exact fun z => run_end s ⟨h, knO_1.mp z⟩
  · rename_i h1
    rw [if_neg h1]
    have h2 : knO (tx s) = 2 := hk.resolve_left h1
    rw [if_pos h2, h2]
    rw [if_pos h2] at h
    exact fun z => run_end s ⟨h, knO_2.mp z⟩
theorem sk_blank {i j : Nat} (h1 : i ≤ j) (h2 : j < sk tx L i) : knO (tx j) = 0 := knO_0.mpr (run_in h1 h2).2
theorem tokA (hv : pos tx L t < L) (ha : a < L) (h4 : a ≤ pos tx L (t + 1)) (h1 : pos tx L t < a) (hk : knO (tx a) = 1 ∨ knO (tx a) = 2) (hb : knO (tx (a - 1)) = knO (tx a)) : a < tnd tx L (pos tx L t) := by
  apply Classical.byContradiction
  intro hn
  have hn : tnd tx L (pos tx L t) ≤ a := Nat.le_of_not_lt hn
  have hg := tnd_gt (tx := tx) hv
  rcases Nat.lt_or_ge (tnd tx L (pos tx L t)) a with h | h
  · have h0 := sk_blank (tx := tx) (L := L) (i := tnd tx L (pos tx L t)) (j := a - 1) (by omega) (by
      have : pos tx L (t + 1) = sk tx L (tnd tx L (pos tx L t)) := rfl
      omega)
    omega
  · have he : tnd tx L (pos tx L t) = a := by omega
    rcases Nat.lt_or_ge (pos tx L t) (a - 1) with h2 | h2
    · obtain ⟨q1, q2, q3⟩ := tnd_mid (tx := tx) hv h2 (by omega)
      have := tnd_last (tx := tx) hv (by omega) q1
      rw [he] at this
      omega
    · have e1 : a - 1 = pos tx L t := by omega
      rw [e1] at hb
      have := tnd_last (tx := tx) hv (by omega) (by omega)
      rw [he] at this
      omega
theorem tokB0 (ha : a < L) (h4 : a ≤ pos tx L 0) (hk : knO (tx a) ≠ 0) : pos tx L 0 = a := by
  show run tx L blB 0 = a
  refine run_at (Nat.zero_le _) (fun j _ hj => run_in (i := 0) (Nat.zero_le _) (by
    have : pos tx L 0 = run tx L blB 0 := rfl
    omega)) (fun z => hk (knO_0.mpr z.2))
theorem tokB (hv : pos tx L t < L) (ha : a < L) (h4 : a ≤ pos tx L (t + 1)) (h1 : pos tx L t < a) (hk : knO (tx a) ≠ 0) (hj : ¬ ((knO (tx a) = 1 ∨ knO (tx a) = 2) ∧ knO (tx (a - 1)) = knO (tx a))) : pos tx L (t + 1) = a ∧ tnd tx L (pos tx L t) ≤ a := by
  have he : tnd tx L (pos tx L t) ≤ a := by
    apply Classical.byContradiction
    intro hn
    obtain ⟨q1, q2, q3⟩ := tnd_mid (tx := tx) hv h1 (by omega)
    exact hj ⟨by omega, by omega⟩
  refine ⟨?_, he⟩
  show run tx L blB (tnd tx L (pos tx L t)) = a
  refine run_at he (fun j hj1 hj2 => run_in hj1 (by
    have : pos tx L (t + 1) = run tx L blB (tnd tx L (pos tx L t)) := rfl
    omega)) (fun z => hk (knO_0.mpr z.2))
theorem tokC (hv : pos tx L t < L) (h1 : pos tx L t < a) (hk : knO (tx a) = 0) : tnd tx L (pos tx L t) ≤ a := by
  apply Classical.byContradiction
  intro hn
  obtain ⟨q1, q2, q3⟩ := tnd_mid (tx := tx) hv h1 (by omega)
  omega
theorem pos_nb (h : pos tx L t < L) : knO (tx (pos tx L t)) ≠ 0 := by
  cases t with
  | zero => exact sk_nb _ h
  | succ t => exact sk_nb _ h
end TKN
def Tx (tx : Nat → Nat) (L : Nat) (c : Sd) : Prop := c.1 1 0 1 = nI L ∧ ∀ i, i < L → c.2.1 2 0 i = nI (tx i)
def Tk (tx : Nat → Nat) (L : Nat) (c : Sd) : Prop := ∀ k, vld tx L k → c.2.1 4 0 k = nI (knd tx L (pos tx L k)) ∧ c.2.1 5 0 k = nI (pos tx L k) ∧ c.2.1 6 0 k = nI (tnd tx L (pos tx L k))
def SpS (c c' : Sd) : Prop := (∀ k i f, ¬ (k = 3 ∧ i = 0 ∧ f = 4) → c'.1 k i f = c.1 k i f) ∧ (∀ k i, ¬ (4 ≤ k ∧ k ≤ 6) → c'.2.1 k i = c.2.1 k i) ∧ c'.2.2 = c.2.2
theorem SpS_rfl (c : Sd) : SpS c c := ⟨fun _ _ _ _ => rfl, fun _ _ _ => rfl, rfl⟩
theorem SpS_tr {a b c : Sd} (h : SpS a b) (h2 : SpS b c) : SpS a c := ⟨fun k i f h1 => (h2.1 k i f h1).trans (h.1 k i f h1), fun k i h1 => (h2.2.1 k i h1).trans (h.2.1 k i h1), h2.2.2.trans h.2.2⟩
def addT (c : Sd) (t : Nat) (a b d : Int32) : Sd := (up3 c.1 3 0 4 (c.1 3 0 4 + 1), upA (upA (upA c.2.1 4 0 t a) 5 0 t b) 6 0 t d, c.2.2)
theorem addT_SpS (c : Sd) (t : Nat) (a b d : Int32) : SpS c (addT c t a b d) := by
  refine ⟨fun k i f h => up3_n _ _ h, fun k i h => ?_, rfl⟩
  show upA (upA (upA c.2.1 4 0 t a) 5 0 t b) 6 0 t d k i = _
  rw [upA_n _ _ (fun z => h (by omega)), upA_n _ _ (fun z => h (by omega)), upA_n _ _ (fun z => h (by omega))]
theorem addT_4 (c : Sd) (t : Nat) (a b d : Int32) : (addT c t a b d).2.1 4 0 = upd (c.2.1 4 0) t a := rfl
theorem addT_5 (c : Sd) (t : Nat) (a b d : Int32) : (addT c t a b d).2.1 5 0 = upd (c.2.1 5 0) t b := rfl
theorem addT_6 (c : Sd) (t : Nat) (a b d : Int32) : (addT c t a b d).2.1 6 0 = upd (c.2.1 6 0) t d := rfl
section SPL
variable {tx : Nat → Nat} {L : Nat} {c m : Sd}
theorem c_kindOf (w : Wd) {b : Nat} (hb : b < 256) : Fn 0 14 [vI (nI b)] w w (some (vI (nI (knO b)))) := by
  have e32 : nI b = 32 ↔ b = 32 := nIeq (a := b) (b := 32) (by omega) (by decide)
  have l97 : nI b < 97 ↔ b < 97 := nIlt (a := b) (b := 97) (by omega) (by decide)
  have g122 : (122 : Int32) < nI b ↔ 122 < b := nIlt (a := 122) (b := b) (by decide) (by omega)
  have l48 : nI b < 48 ↔ b < 48 := nIlt (a := b) (b := 48) (by omega) (by decide)
  have g57 : (57 : Int32) < nI b ↔ 57 < b := nIlt (a := 57) (b := b) (by decide) (by omega)
  have lt_ : ltB b = true ↔ 97 ≤ b ∧ b ≤ 122 := decide_eq_true_iff
  have dg_ : dgB b = true ↔ 48 ≤ b ∧ b ≤ 57 := decide_eq_true_iff
  refine ctr_ev 100 [22] rfl rfl (bI (c := nI b = 32) (fun h => ?_) (fun h => ?_))
  · rw [e32] at h
    refine And.intro rfl ?_
    unfold knO
    rw [if_pos h]
    rfl
  · rw [e32] at h
    have h22 : ¬ (97 ≤ b ∧ b ≤ 122) → Go 0 14 none 22 [some (vI (nI b))] [] w (fun w' r' => w' = w ∧ r' = some (vI (nI (knO b)))) := by
      intro hl
      refine go_ev 100 [] (bI (c := nI b < 48) (fun h1 => ?_) (fun h1 => bI (c := (57 : Int32) < nI b) (fun h2 => ?_) (fun h2 => ?_)))
      · rw [l48] at h1
        refine And.intro rfl ?_
        unfold knO
        rw [if_neg h, if_neg (by rw [lt_]; exact hl), if_neg (by rw [dg_]; omega)]
        rfl
      · rw [g57] at h2
        refine And.intro rfl ?_
        unfold knO
        rw [if_neg h, if_neg (by rw [lt_]; exact hl), if_neg (by rw [dg_]; omega)]
        rfl
      · rw [l48] at h1
        rw [g57] at h2
        refine And.intro rfl ?_
        unfold knO
        rw [if_neg h, if_neg (by rw [lt_]; exact hl), if_pos (by rw [dg_]; omega)]
        rfl
    refine bI (c := nI b < 97) (fun h1 => ?_) (fun h1 => bI (c := (122 : Int32) < nI b) (fun h2 => ?_) (fun h2 => ?_))
    · rw [l97] at h1
      exact h22 (by omega)
    · rw [g122] at h2
      exact h22 (by omega)
    · rw [l97] at h1
      rw [g122] at h2
      refine And.intro rfl ?_
      unfold knO
      rw [if_neg h, if_pos (by rw [lt_]; omega)]
      rfl
theorem c_addToken {t : Nat} (ht : t < 121) (hct : c.1 3 0 4 = nI t) (a b d : Int32) : Fn 0 13 [vR false 3 0, vI a, vI b, vI d] (c, m) (addT c t a b d, m) none := by
  have hcl : (c.1 3 0 4).toNatClampNeg = t := pk_cl t hct
  have hin : vp_in (c.1 3 0 4) 121 := pk_in t 121 ht hct
  have hw : ((up3 c.1 3 0 4 (c.1 3 0 4 + 1), upA (upA (upA c.2.1 4 0 (c.1 3 0 4).toNatClampNeg a) 5 0 (c.1 3 0 4).toNatClampNeg b) 6 0 (c.1 3 0 4).toNatClampNeg d, c.2.2) : Sd) = addT c t a b d := by
    rw [hcl]
    rfl
  refine ctr_ev 100 [] rfl rfl (bF (c := (121 : Int32) ≤ c.1 3 0 4) (by rw [hct, show (121 : Int32) = nI 121 from rfl, nIle (by decide) (by omega)]; omega) (dI hin (dI hin (dI hin ?_))))
  exact And.intro (congrArg (fun z => ((z, m) : Wd)) hw) rfl
def QSp (tx : Nat → Nat) (L : Nat) (c m : Sd) : Wd → Option PV → Prop := fun w' r' => ∃ c', w' = (c', m) ∧ SpS c c' ∧ Tk tx L c' ∧ r' = none
theorem qspi {c' : Sd} (h1 : SpS c c') (h2 : Tk tx L c') : QSp tx L c m (c', m) none := ⟨c', rfl, h1, h2, rfl⟩
/-- tokens so far: t of them, all begun before a -/
def TkI (tx : Nat → Nat) (L a t : Nat) (c : Sd) : Prop := c.1 3 0 4 = nI t ∧ (∀ j, j < t → c.2.1 4 0 j = nI (knO (tx (pos tx L j))) ∧ c.2.1 5 0 j = nI (pos tx L j) ∧ pos tx L j < a ∧ c.2.1 6 0 j = nI (if j + 1 = t then min a (tnd tx L (pos tx L j)) else tnd tx L (pos tx L j))) ∧ a ≤ pos tx L t
theorem TkI_new {a t : Nat} (hI : TkI tx L a t c) (ht : pos tx L t = a) (ha : a < L) (he : ∀ j, j + 1 = t → tnd tx L (pos tx L j) ≤ a) : TkI tx L (a + 1) (t + 1) (addT c t (nI (knO (tx a))) (nI a) (nI (a + 1))) := by
  obtain ⟨h1, h2, h3⟩ := hI
  have hg := tnd_gt (tx := tx) ha
  refine ⟨?_, fun j hj => ?_, ?_⟩
  · show up3 c.1 3 0 4 (c.1 3 0 4 + 1) 3 0 4 = _
    rw [up3_s, h1, nI_succ]
  · rw [addT_4, addT_5, addT_6]
    by_cases hjt : j = t
    · subst hjt
      rw [pk_us, pk_us, pk_us, ht, if_pos rfl]
      refine ⟨rfl, rfl, by omega, ?_⟩
      congr 1
      omega
    · rw [pk_un hjt, pk_un hjt, pk_un hjt]
      obtain ⟨q1, q2, q3, q4⟩ := h2 j (by omega)
      refine ⟨q1, q2, by omega, ?_⟩
      rw [q4, if_neg (show ¬ j + 1 = t + 1 by omega)]
      split
      · rename_i hj2
        have := he j hj2
        congr 1
        omega
      · rfl
  · have := pos_step (tx := tx) (L := L) (k := t) (by omega)
    omega
theorem c_split (hL : L ≤ 120) (hb : ∀ i, tx i < 256) (hX : Tx tx L c) : Ctr 1 12 [vR false 3 0] (c, m) (QSp tx L c m) := by
  have key : ∀ (j a t : Nat) (x bf : Int32) (v3 v4 : Option PV) (c' : Sd), a + j = L → x = nI a → bf = nI (if a = 0 then 0 else knO (tx (a - 1))) → SpS c c' → TkI tx L a t c' → Go 1 12 none 9 [some (vR false 3 0), some (vI bf), some (vI x), v3, v4] [] (c', m) (QSp tx L c m) := by
    intro j
    induction j with
    | zero =>
      intro a t x bf v3 v4 c' ha hx hbf hS hI
      have hLc : c'.1 1 0 1 = nI L := (hS.1 1 0 1 (by decide)).trans hX.1
      have haL : a = L := by omega
      obtain ⟨h1, h2, h3⟩ := id hI
      have hv : vld tx L t := fun j hj => by
        have := (h2 j hj).2.2.1
        omega
      have ht := vld_le hv
      have hpt : pos tx L t = L := Nat.le_antisymm (pos_le t) (by omega)
      refine go_ev 100 [9] (bT (c := c'.1 1 0 1 ≤ x) (by rw [hLc, hx, nIle (by omega) (by omega)]; omega) ?_)
      refine iF (c_addToken (t := t) (by omega) h1 _ _ _) (by decide) ?_
      refine qspi (SpS_tr hS (addT_SpS _ _ _ _ _)) (fun k hk => ?_)
      rw [addT_4, addT_5, addT_6]
      have hkt : k ≤ t := by
        apply Classical.byContradiction
        intro hn
        have := hk t (by omega)
        omega
      by_cases hke : k = t
      · subst hke
        rw [pk_us, pk_us, pk_us, hpt]
        unfold knd tnd
        rw [if_neg (Nat.lt_irrefl _), if_neg (Nat.lt_irrefl _)]
        exact ⟨rfl, hLc, hLc⟩
      · rw [pk_un hke, pk_un hke, pk_un hke]
        obtain ⟨q1, q2, q3, q4⟩ := h2 k (by omega)
        have hg := tnd_gt (tx := tx) (show pos tx L k < L by omega)
        unfold knd
        rw [if_pos (by omega)]
        refine ⟨q1, q2, ?_⟩
        rw [q4]
        split
        · congr 1
          omega
        · rfl
    | succ j ih =>
      intro a t x bf v3 v4 c' ha hx hbf hS hI
      subst hx hbf
      have hLc : c'.1 1 0 1 = nI L := (hS.1 1 0 1 (by decide)).trans hX.1
      have hba := hb a
      have hkl := knO_lt (tx a)
      have hbl : (if a = 0 then 0 else knO (tx (a - 1))) < 4 := by
        split
        · omega
        · exact knO_lt _
      have haL : a < L := by omega
      obtain ⟨h1, h2, h3⟩ := id hI
      have hv : vld tx L t := fun j hj => by
        have := (h2 j hj).2.2.1
        omega
      have ht := vld_le hv
      have hby : c'.2.1 2 0 (nI a).toNatClampNeg = nI (tx a) := by
        rw [pk_cl a, hS.2.1 2 0 (by decide)]
        exact hX.2 a haL
      have hK : Fn 0 14 [vI (c'.2.1 2 0 (nI a).toNatClampNeg)] (c', m) (c', m) (some (vI (nI (knO (tx a))))) := by
        rw [hby]
        exact c_kindOf _ hba
      have hnext : ∀ (t' : Nat) (v4 : Option PV) (c2 : Sd), SpS c c2 → TkI tx L (a + 1) t' c2 → Go 1 12 none 97 [some (vR false 3 0), some (vI (nI (if a = 0 then 0 else knO (tx (a - 1))))), some (vI (nI a)), some (vI (nI (knO (tx a)))), v4] [] (c2, m) (QSp tx L c m) := by
        intro t' v4 c2 hS2 hI2
        refine go_ev 100 [9] (ih (a + 1) t' _ _ _ _ c2 (by omega) (nI_succ a).symm ?_ hS2 hI2)
        rw [if_neg (Nat.succ_ne_zero a)]
        rfl
      have h84 : ∀ (x4 : Int32), ¬ ((knO (tx a) = 1 ∨ knO (tx a) = 2) ∧ knO (tx a) = (if a = 0 then 0 else knO (tx (a - 1))) ∧ 0 < t) → Go 1 12 none 84 [some (vR false 3 0), some (vI (nI (if a = 0 then 0 else knO (tx (a - 1))))), some (vI (nI a)), some (vI (nI (knO (tx a)))), some (vI x4)] [] (c', m) (QSp tx L c m) := by
        intro x4 hnj
        refine go_ev 100 [97] (bI (c := nI (knO (tx a)) = 0) (fun h => ?_) (fun h => ?_))
        · have hk0 : knO (tx a) = 0 := (nIeq (b := 0) (by omega) (by decide)).mp h
          refine hnext t _ c' hS ⟨h1, fun j hj => ?_, ?_⟩
          · obtain ⟨q1, q2, q3, q4⟩ := h2 j hj
            refine ⟨q1, q2, by omega, ?_⟩
            rw [q4]
            split
            · have := tokC (tx := tx) (hv j hj) q3 hk0
              congr 1
              omega
            · rfl
          · have : pos tx L t ≠ a := fun z => pos_nb (tx := tx) (L := L) (t := t) (by omega) (by rw [z]; exact hk0)
            omega
        · have hk0 : knO (tx a) ≠ 0 := fun z => h (by rw [z]; rfl)
          have hst : pos tx L t = a ∧ ∀ j, j + 1 = t → tnd tx L (pos tx L j) ≤ a := by
            cases t with
            | zero => exact ⟨tokB0 haL h3 hk0, fun j hj => absurd hj (by omega)⟩
            | succ t =>
              have hlt := (h2 t (by omega)).2.2.1
              obtain ⟨q1, q2⟩ := tokB (tx := tx) (hv t (by omega)) haL h3 hlt hk0 (fun z => hnj ⟨z.1, by rw [if_neg (by omega)]; exact z.2.symm, by omega⟩)
              exact ⟨q1, fun j hj => by rw [show j = t by omega]; exact q2⟩
          have hnew := TkI_new hI hst.1 haL hst.2
          rw [nI_succ a] at hnew
          refine iF (c_addToken (t := t) (by omega) h1 _ _ _) (by decide) ?_
          exact hnext (t + 1) _ _ (SpS_tr hS (addT_SpS _ _ _ _ _)) hnew
      refine go_ev 100 [9, 48, 84, 97] (bF (c := c'.1 1 0 1 ≤ nI a) (by rw [hLc, nIle (by omega) (by omega)]; omega) (dI (pk_in a 120 (by omega)) (iF hK (by decide) ?_)))
      have hjoin : (knO (tx a) = 1 ∨ knO (tx a) = 2) → Go 1 12 none 48 [some (vR false 3 0), some (vI (nI (if a = 0 then 0 else knO (tx (a - 1))))), some (vI (nI a)), some (vI (nI (knO (tx a)))), v4] [vI 1] (c', m) (QSp tx L c m) := by
        intro hj
        refine go_ev 100 [9, 84, 97] (bF (c := (1 : Int32) = 0) (by decide) (bI (c := nI (knO (tx a)) = nI (if a = 0 then 0 else knO (tx (a - 1)))) (fun h => ?_) (fun h => ?_)))
        · rw [nIeq (by omega) (by omega)] at h
          refine bI (c := c'.1 3 0 4 ≤ 0) (fun h0 => ?_) (fun h0 => ?_)
          · rw [h1, show (0 : Int32) = nI 0 from rfl, nIle (by omega) (by decide)] at h0
            exact h84 _ (fun z => by omega)
          · rw [h1, show (0 : Int32) = nI 0 from rfl, nIle (by omega) (by decide)] at h0
            obtain ⟨t, rfl⟩ : ∃ t', t = t' + 1 := ⟨t - 1, by omega⟩
            have ha0 : ¬ a = 0 := fun z => by
              rw [if_pos z] at h
              omega
            rw [if_neg ha0] at h
            have hlt := (h2 t (by omega)).2.2.1
            have hA := tokA (tx := tx) (hv t (by omega)) haL h3 hlt hj h.symm
            have hi1 : c'.1 3 0 4 - 1 = nI t := by rw [h1, nI_sub1 (by omega)]; rfl
            have hic := pk_cl t hi1
            refine dI (pk_in t 121 (by omega) hi1) (hnext (t + 1) _ (c'.1, upA c'.2.1 6 0 (c'.1 3 0 4 - 1).toNatClampNeg (nI a + 1), c'.2.2) ?_ ?_)
            · exact SpS_tr hS ⟨fun _ _ _ _ => rfl, fun k i hk => upA_n _ _ (fun z => hk (by omega)), rfl⟩
            · refine ⟨h1, fun j hj => ?_, ?_⟩
              · obtain ⟨q1, q2, q3, q4⟩ := h2 j hj
                refine ⟨q1, q2, by omega, ?_⟩
                show upA c'.2.1 6 0 (c'.1 3 0 4 - 1).toNatClampNeg (nI a + 1) 6 0 j = _
                rw [upA_s, hic]
                by_cases hjt : j = t
                · subst hjt
                  rw [pk_us, if_pos rfl, ← nI_succ]
                  congr 1
                  omega
                · rw [pk_un hjt, q4, if_neg (by omega), if_neg (by omega)]
              · have := (tnd_gt (tx := tx) (hv t (by omega))).1
                have := sk_ge (tx := tx) (L := L) (tnd tx L (pos tx L t))
                show a + 1 ≤ sk tx L (tnd tx L (pos tx L t))
                omega
        · rw [nIeq (by omega) (by omega)] at h
          exact h84 _ (fun z => h z.2.1)
      refine bI (c := nI (knO (tx a)) = 1) (fun h => ?_) (fun h => bI (c := nI (knO (tx a)) = 2) (fun h2' => ?_) (fun h2' => ?_))
      · exact hjoin (Or.inl ((nIeq (b := 1) (by omega) (by decide)).mp h))
      · exact hjoin (Or.inr ((nIeq (b := 2) (by omega) (by decide)).mp h2'))
      · refine go_ev 100 [9, 84, 97] (bT (c := (0 : Int32) = 0) rfl (h84 _ (fun z => ?_)))
        rcases z.1 with z1 | z1
        · exact h (by rw [z1]; rfl)
        · exact h2' (by rw [z1]; rfl)
  have h0 : SpS c (up3 c.1 3 0 4 0, c.2.1, c.2.2) := ⟨fun k i f h => up3_n _ _ h, fun _ _ _ => rfl, rfl⟩
  refine ctr_ev 100 [9] rfl rfl ?_
  exact key L 0 0 0 0 none none (up3 c.1 3 0 4 0, c.2.1, c.2.2) (by omega) rfl rfl h0 ⟨up3_s c.1 3 0 4 0, fun j hj => absurd hj (by omega), Nat.zero_le _⟩
end SPL
end
section
/-! the class: a draft of a term -/
def DR (c : Sd) (t : Nat) : Prop := ∃ r s f, c.1 11 t 3 = nI r ∧ c.1 11 t 8 = nI s ∧ c.1 11 t 10 = nI f ∧ r ≤ 25 ∧ s ≤ 40 ∧ f ≤ 80
def Dr (c : Sd) (t : Nat) (T : Trm) : Prop := DR c t ∧ (T.1.length ≤ 25 ∧ T.2.length ≤ 40 → CT c t T ∧ CSl c t (slo T.2))
def DfS (t : Nat) (c c' : Sd) : Prop := (∀ k i f, ¬ (k = 11 ∧ i = t) → c'.1 k i f = c.1 k i f) ∧ (∀ k i, ¬ ((12 ≤ k ∧ k ≤ 22) ∧ i = t) → c'.2.1 k i = c.2.1 k i) ∧ c'.2.2 = c.2.2
theorem DfS_rfl (t : Nat) (c : Sd) : DfS t c c := ⟨fun _ _ _ _ => rfl, fun _ _ _ => rfl, rfl⟩
theorem DfS_tr {t : Nat} {a b c : Sd} (h : DfS t a b) (h2 : DfS t b c) : DfS t a c := ⟨fun k i f h1 => (h2.1 k i f h1).trans (h.1 k i f h1), fun k i h1 => (h2.2.1 k i h1).trans (h.2.1 k i h1), h2.2.2.trans h.2.2⟩
def QDf (t : Nat) (c m : Sd) (T : Trm) : Wd → Option PV → Prop := fun w' r' => ∃ c', w' = (c', m) ∧ DfS t c c' ∧ Dr c' t T ∧ r' = none
theorem qdi {t : Nat} {c m c' : Sd} {T : Trm} (h1 : DfS t c c') (h2 : Dr c' t T) : QDf t c m T (c', m) none := ⟨c', rfl, h1, h2, rfl⟩
theorem DfS_f {t f : Nat} {c c' : Sd} (x : Int32) (h : DfS t c c') : DfS t c (up3 c'.1 11 t f x, c'.2.1, c'.2.2) := ⟨fun k i g h1 => (up3_n _ _ (fun z => h1 ⟨z.1, z.2.1⟩)).trans (h.1 k i g h1), h.2.1, h.2.2⟩
theorem DfS_a {t k j : Nat} {c c' : Sd} (x : Int32) (hk : 12 ≤ k ∧ k ≤ 22) (h : DfS t c c') : DfS t c (c'.1, upA c'.2.1 k t j x, c'.2.2) := ⟨h.1, fun k' i h1 => (upA_n _ _ (fun z => h1 ⟨by omega, z.2⟩)).trans (h.2.1 k' i h1), h.2.2⟩
theorem sloF_app : ∀ (S : List StpT) (s : Nat) (e : StpT), sloF (S ++ [e]) s = sloF S s ++ sloE (s + S.length) e
  | [], s, e => by
    show sloE s e ++ [] = _
    rw [List.append_nil]
    rfl
  | a :: S, s, e => by
    show sloE s a ++ sloF (S ++ [e]) (s + 1) = (sloE s a ++ sloF S (s + 1)) ++ _
    rw [sloF_app S (s + 1) e, List.append_assoc, List.length_cons, Nat.add_right_comm, ← Nat.add_assoc]
theorem slo_app (S : List StpT) (e : StpT) : slo (S ++ [e]) = slo S ++ sloE S.length e := by
  unfold slo
  rw [sloF_app, Nat.zero_add]
theorem CSl_snoc {c c' : Sd} {t : Nat} {L : List Slt} {sl : Slt} (h : CSl c t L) (h1 : c'.1 11 t 10 = nI (L.length + 1)) (h2 : c'.2.1 22 t = upd (c.2.1 22 t) L.length (nI (2 * sl.1 + sl.2.toNat))) : CSl c' t (L ++ [sl]) := by
  refine ⟨by rw [h1, List.length_append]; rfl, fun k sl' hk => ?_⟩
  rw [h2]
  by_cases hkl : k < L.length
  · rw [List.getElem?_append_left hkl] at hk
    rw [pk_un (by omega)]
    exact h.2 k sl' hk
  · have hlen := (List.getElem?_eq_some_iff.mp hk).1
    rw [List.length_append] at hlen
    have hke : k = L.length := by
      have : ([sl] : List Slt).length = 1 := rfl
      omega
    subst hke
    rw [List.getElem?_append_right (Nat.le_refl _), Nat.sub_self] at hk
    cases hk
    exact pk_us
theorem get_snoc {α : Type} {l : List α} {x y : α} {k : Nat} (h : (l ++ [x])[k]? = some y) : (k < l.length ∧ l[k]? = some y) ∨ (k = l.length ∧ y = x) := by
  by_cases hk : k < l.length
  · rw [List.getElem?_append_left hk] at h
    exact Or.inl ⟨hk, h⟩
  · have hlen := (List.getElem?_eq_some_iff.mp h).1
    rw [List.length_append] at hlen
    have hke : k = l.length := by
      have : ([x] : List α).length = 1 := rfl
      omega
    subst hke
    rw [List.getElem?_append_right (Nat.le_refl _), Nat.sub_self] at h
    cases h
    exact Or.inr ⟨rfl, rfl⟩
section DRF
variable {t : Nat} {c m : Sd} {R : List (Nat × Nat × Nat)} {S : List StpT}
theorem c_wipe : Ctr 0 36 [vR false 11 t] (c, m) (QDf t c m ([], [])) := by
  refine ctr_ev 100 [] rfl rfl (qdi (c' := (up3 (up3 (up3 c.1 11 t 3 0) 11 t 8 0) 11 t 10 0, c.2.1, c.2.2)) ?_ ?_)
  · exact DfS_f 0 (DfS_f 0 (DfS_f 0 (DfS_rfl t c)))
  · have h10 : up3 (up3 (up3 c.1 11 t 3 0) 11 t 8 0) 11 t 10 0 11 t 10 = 0 := up3_s _ _ _ _ _
    have h8 : up3 (up3 (up3 c.1 11 t 3 0) 11 t 8 0) 11 t 10 0 11 t 8 = 0 := (up3_n _ _ (fun z => absurd z.2.2 (by decide))).trans (up3_s _ _ _ _ _)
    have h3 : up3 (up3 (up3 c.1 11 t 3 0) 11 t 8 0) 11 t 10 0 11 t 3 = 0 := (up3_n _ _ (fun z => absurd z.2.2 (by decide))).trans ((up3_n _ _ (fun z => absurd z.2.2 (by decide))).trans (up3_s _ _ _ _ _))
    refine ⟨⟨0, 0, 0, h3, h8, h10, by decide, by decide, by decide⟩, fun _ => ⟨⟨h3, h8, fun r k hk => (by cases hk), fun s e he => (by cases he)⟩, ⟨h10, fun k sl hk => (by cases hk)⟩⟩⟩
theorem c_addRule {k o : Nat} (hD : Dr c t (R, S)) : Ctr 0 37 [vR false 11 t, vI (nI k), vI (nI o)] (c, m) (QDf t c m (R ++ [(k, o, S.length)], S)) := by
  obtain ⟨⟨r, s, f, h3, h8, h10, hr, hs, hf⟩, hex⟩ := hD
  refine ctr_ev 100 [] rfl rfl (bI (c := (25 : Int32) ≤ c.1 11 t 3) (fun h => ?_) (fun h => ?_))
  · rw [h3, show (25 : Int32) = nI 25 from rfl, nIle (by decide) (by omega)] at h
    refine qdi (DfS_rfl t c) ⟨⟨r, s, f, h3, h8, h10, hr, hs, hf⟩, fun hl => ?_⟩
    have hl : (R ++ [(k, o, S.length)]).length ≤ 25 ∧ S.length ≤ 40 := hl
    rw [List.length_append] at hl
    have hl1 : R.length + 1 ≤ 25 := hl.1
    have := (hex ⟨by show R.length ≤ 25; omega, hl.2⟩).1.1
    rw [h3, nIeq (by omega) (by show R.length < 2 ^ 31; omega)] at this
    have : r = R.length := this
    omega
  · rw [h3, show (25 : Int32) = nI 25 from rfl, nIle (by decide) (by omega)] at h
    have hcl : (c.1 11 t 3).toNatClampNeg = r := pk_cl r h3
    have hin : vp_in (c.1 11 t 3) 25 := pk_in r 25 (by omega) h3
    refine dI hin (dI hin (dI hin ?_))
    refine qdi (c' := (up3 c.1 11 t 3 (c.1 11 t 3 + 1), upA (upA (upA c.2.1 12 t (c.1 11 t 3).toNatClampNeg (nI k)) 13 t (c.1 11 t 3).toNatClampNeg (nI o)) 14 t (c.1 11 t 3).toNatClampNeg (c.1 11 t 8), c.2.2)) ?_ ?_
    · exact DfS_f (c' := (c.1, upA (upA (upA c.2.1 12 t (c.1 11 t 3).toNatClampNeg (nI k)) 13 t (c.1 11 t 3).toNatClampNeg (nI o)) 14 t (c.1 11 t 3).toNatClampNeg (c.1 11 t 8), c.2.2)) _ (DfS_a (k := 14) (c' := (c.1, upA (upA c.2.1 12 t (c.1 11 t 3).toNatClampNeg (nI k)) 13 t (c.1 11 t 3).toNatClampNeg (nI o), c.2.2)) _ (by decide) (DfS_a (k := 13) (c' := (c.1, upA c.2.1 12 t (c.1 11 t 3).toNatClampNeg (nI k), c.2.2)) _ (by decide) (DfS_a (k := 12) _ (by decide) (DfS_rfl t c))))
    · rw [hcl]
      have e3 : up3 c.1 11 t 3 (c.1 11 t 3 + 1) 11 t 3 = nI (r + 1) := by rw [up3_s, h3, nI_succ]
      have e8 : up3 c.1 11 t 3 (c.1 11 t 3 + 1) 11 t 8 = c.1 11 t 8 := up3_n _ _ (fun z => absurd z.2.2 (by decide))
      have e10 : up3 c.1 11 t 3 (c.1 11 t 3 + 1) 11 t 10 = c.1 11 t 10 := up3_n _ _ (fun z => absurd z.2.2 (by decide))
      have a12 : upA (upA (upA c.2.1 12 t r (nI k)) 13 t r (nI o)) 14 t r (c.1 11 t 8) 12 t = upd (c.2.1 12 t) r (nI k) := by
        rw [upA_n _ _ (fun z => absurd z.1 (by decide)), upA_n _ _ (fun z => absurd z.1 (by decide)), upA_s]
      have a13 : upA (upA (upA c.2.1 12 t r (nI k)) 13 t r (nI o)) 14 t r (c.1 11 t 8) 13 t = upd (c.2.1 13 t) r (nI o) := by
        rw [upA_n _ _ (fun z => absurd z.1 (by decide)), upA_s, upA_n _ _ (fun z => absurd z.1 (by decide))]
      have a14 : upA (upA (upA c.2.1 12 t r (nI k)) 13 t r (nI o)) 14 t r (c.1 11 t 8) 14 t = upd (c.2.1 14 t) r (c.1 11 t 8) := by
        rw [upA_s, upA_n _ _ (fun z => absurd z.1 (by decide)), upA_n _ _ (fun z => absurd z.1 (by decide))]
      have ao : ∀ q, 15 ≤ q → upA (upA (upA c.2.1 12 t r (nI k)) 13 t r (nI o)) 14 t r (c.1 11 t 8) q t = c.2.1 q t := fun q hq => by
        rw [upA_n _ _ (fun z => by omega), upA_n _ _ (fun z => by omega), upA_n _ _ (fun z => by omega)]
      refine ⟨⟨r + 1, s, f, e3, e8.trans h8, e10.trans h10, by omega, hs, hf⟩, fun hl => ?_⟩
      have hl : (R ++ [(k, o, S.length)]).length ≤ 25 ∧ S.length ≤ 40 := hl
      rw [List.length_append] at hl
      have hl1 : R.length + 1 ≤ 25 := hl.1
      obtain ⟨hT, hSl⟩ := hex ⟨by show R.length ≤ 25; omega, hl.2⟩
      have hrR : r = R.length := by
        have := hT.1
        rw [h3] at this
        exact (nIeq (by omega) (by show R.length < 2 ^ 31; omega)).mp this
      refine ⟨⟨?_, e8.trans hT.2.1, fun q x hq => ?_, fun q x hq => ?_⟩, ?_⟩
      · show up3 c.1 11 t 3 (c.1 11 t 3 + 1) 11 t 3 = nI (R ++ [(k, o, S.length)]).length
        rw [e3, List.length_append, hrR]
        rfl
      · show upA (upA (upA c.2.1 12 t r (nI k)) 13 t r (nI o)) 14 t r (c.1 11 t 8) 12 t q = _ ∧ upA (upA (upA c.2.1 12 t r (nI k)) 13 t r (nI o)) 14 t r (c.1 11 t 8) 13 t q = _ ∧ upA (upA (upA c.2.1 12 t r (nI k)) 13 t r (nI o)) 14 t r (c.1 11 t 8) 14 t q = _
        rw [a12, a13, a14]
        rcases get_snoc hq with ⟨h1, h2⟩ | ⟨h1, h2⟩
        · rw [pk_un (by omega), pk_un (by omega), pk_un (by omega)]
          exact hT.2.2.1 q x h2
        · subst h1 h2 hrR
          rw [pk_us, pk_us, pk_us]
          exact ⟨rfl, rfl, hT.2.1⟩
      · have := hT.2.2.2 q x hq
        unfold cStp at this ⊢
        show upA (upA (upA c.2.1 12 t r (nI k)) 13 t r (nI o)) 14 t r (c.1 11 t 8) 15 t q = _ ∧ (_ → upA (upA (upA c.2.1 12 t r (nI k)) 13 t r (nI o)) 14 t r (c.1 11 t 8) 16 t q = _ ∧ upA (upA (upA c.2.1 12 t r (nI k)) 13 t r (nI o)) 14 t r (c.1 11 t 8) 17 t q = _ ∧ upA (upA (upA c.2.1 12 t r (nI k)) 13 t r (nI o)) 14 t r (c.1 11 t 8) 18 t (2 * q) = _ ∧ upA (upA (upA c.2.1 12 t r (nI k)) 13 t r (nI o)) 14 t r (c.1 11 t 8) 18 t (2 * q + 1) = _)
        rw [ao 15 (by decide), ao 16 (by decide), ao 17 (by decide), ao 18 (by decide)]
        exact this
      · refine ⟨e10.trans hSl.1, fun q x hq => ?_⟩
        show upA (upA (upA c.2.1 12 t r (nI k)) 13 t r (nI o)) 14 t r (c.1 11 t 8) 22 t q = _
        rw [ao 22 (by decide)]
        exact hSl.2 q x hq
/-- a number that is told, or not -/
def aN (c : Sd) (t f pl : Nat) (x : Int32) : Sd := if x = -1 then (c.1, upA c.2.1 18 t pl 1, c.2.2) else if f < 80 then (up3 c.1 11 t 10 (nI f + 1), upA (upA c.2.1 18 t pl x) 22 t f (nI pl), c.2.2) else (c.1, upA c.2.1 18 t pl x, c.2.2)
theorem c_addNumber {f pl : Nat} (hf : f ≤ 80) (hp : pl < 80) (h10 : c.1 11 t 10 = nI f) (x : Int32) : Fn 0 39 [vR false 11 t, vI (nI pl), vI x] (c, m) (aN c t f pl x, m) none := by
  have hpc : (nI pl).toNatClampNeg = pl := pk_cl pl
  have hpi : vp_in (nI pl) 80 := pk_in pl 80 hp
  have hfc : (c.1 11 t 10).toNatClampNeg = f := pk_cl f h10
  refine ctr_ev 100 [] rfl rfl (bI (c := x = -1) (fun h => ?_) (fun h => ?_))
  · refine dI hpi (bT (c := x = -1) h (And.intro ?_ rfl))
    show ((c.1, upA c.2.1 18 t (nI pl).toNatClampNeg 1, c.2.2), m) = _
    unfold aN
    rw [if_pos h, hpc]
  · refine dI hpi (bF (c := x = -1) h (bI (c := nI 80 ≤ c.1 11 t 10) (fun h2 => And.intro ?_ rfl) (fun h2 => ?_)))
    · rw [h10, nIle (by decide) (by omega)] at h2
      show ((c.1, upA c.2.1 18 t (nI pl).toNatClampNeg x, c.2.2), m) = _
      unfold aN
      rw [if_neg h, if_neg (by omega), hpc]
    · rw [h10, nIle (by decide) (by omega)] at h2
      refine dI (pk_in f 80 (by omega) h10) (And.intro ?_ rfl)
      show ((up3 c.1 11 t 10 (c.1 11 t 10 + 1), upA (upA c.2.1 18 t (nI pl).toNatClampNeg x) 22 t (c.1 11 t 10).toNatClampNeg (nI pl), c.2.2), m) = _
      unfold aN
      rw [if_neg h, if_pos (by omega), hpc, hfc, h10]
theorem aN_spec {f pl : Nat} (hf : f ≤ 80) (h10 : c.1 11 t 10 = nI f) (x : Int32) : DfS t c (aN c t f pl x) ∧ (∃ f', f' ≤ 80 ∧ (aN c t f pl x).1 11 t 10 = nI f') ∧ (∀ g, g ≠ 10 → (aN c t f pl x).1 11 t g = c.1 11 t g) ∧ (aN c t f pl x).2.1 18 t = upd (c.2.1 18 t) pl (if x = -1 then 1 else x) ∧ (∀ k, k ≠ 18 → k ≠ 22 → (aN c t f pl x).2.1 k t = c.2.1 k t) ∧ (x = -1 → (aN c t f pl x).1 11 t 10 = nI f ∧ (aN c t f pl x).2.1 22 t = c.2.1 22 t) ∧ (x ≠ -1 → f < 80 → (aN c t f pl x).1 11 t 10 = nI (f + 1) ∧ (aN c t f pl x).2.1 22 t = upd (c.2.1 22 t) f (nI pl)) := by
  unfold aN
  by_cases h : x = -1
  · rw [if_pos h, if_pos h]
    refine ⟨DfS_a _ (by decide) (DfS_rfl t c), ⟨f, hf, h10⟩, fun _ _ => rfl, upA_s c.2.1 18 t pl 1, fun k h1 _ => upA_n (k := 18) (i := t) (j := pl) c.2.1 _ (fun z => h1 z.1), fun _ => ⟨h10, rfl⟩, fun z => absurd h z⟩
  · rw [if_neg h, if_neg h]
    by_cases h2 : f < 80
    · rw [if_pos h2]
      refine ⟨DfS_f (c' := (c.1, upA (upA c.2.1 18 t pl x) 22 t f (nI pl), c.2.2)) _ (DfS_a (k := 22) (c' := (c.1, upA c.2.1 18 t pl x, c.2.2)) _ (by decide) (DfS_a _ (by decide) (DfS_rfl t c))), ⟨f + 1, h2, (up3_s c.1 11 t 10 (nI f + 1)).trans (nI_succ f).symm⟩, fun g hg => up3_n (k := 11) (i := t) (f := 10) (k' := 11) (i' := t) (f' := g) c.1 (nI f + 1) (fun z => hg z.2.2), ?_, fun k h1 h22 => ?_, fun z => absurd z h, fun _ _ => ⟨(up3_s c.1 11 t 10 (nI f + 1)).trans (nI_succ f).symm, ?_⟩⟩
      · show upA (upA c.2.1 18 t pl x) 22 t f (nI pl) 18 t = _
        rw [upA_n _ _ (fun z => absurd z.1 (by decide)), upA_s]
      · show upA (upA c.2.1 18 t pl x) 22 t f (nI pl) k t = _
        rw [upA_n _ _ (fun z => h22 z.1), upA_n _ _ (fun z => h1 z.1)]
      · show upA (upA c.2.1 18 t pl x) 22 t f (nI pl) 22 t = _
        rw [upA_s, upA_n _ _ (fun z => absurd z.1 (by decide))]
    · rw [if_neg h2]
      exact ⟨DfS_a _ (by decide) (DfS_rfl t c), ⟨f, hf, h10⟩, fun _ _ => rfl, upA_s c.2.1 18 t pl x, fun k h1 _ => upA_n (k := 18) (i := t) (j := pl) c.2.1 _ (fun z => h1 z.1), fun z => absurd z h, fun _ z => absurd z h2⟩
/-- how a step's numbers are handed over -/
def tld (e : StpT) (ma gi : Int32) : Prop := (if 2 ≤ e.1 ∧ e.1 ≤ 4 then ma = nI e.2.2.2.1 ∧ e.2.2.2.1 < 100 else ma = -1 ∧ e.2.2.2.1 = 1) ∧ (if e.2.2.2.2.2 = true ∧ e.1 ≤ 2 then gi = nI e.2.2.2.2.1 ∧ e.2.2.2.2.1 < 100 else gi = -1 ∧ e.2.2.2.2.1 = 1)
theorem c_addStep {k o : Nat} {e : StpT} {ma gi : Int32} (hD : Dr c t (R ++ [(k, o, S.length)], S)) (ht : tld e ma gi) : Ctr 1 38 [vR false 11 t, vI (nI (kcd e.1)), vI (nI e.2.1), vI (nI e.2.2.1), vI ma, vI gi] (c, m) (QDf t c m (R ++ [(k, o, (S ++ [e]).length)], S ++ [e])) := by
  obtain ⟨⟨r, s, f, h3, h8, h10, hr, hs, hf⟩, hex⟩ := hD
  have hlen : ∀ x, (R ++ [(k, o, x)]).length = R.length + 1 := fun x => by rw [List.length_append]; rfl
  have hlen2 : (S ++ [e]).length = S.length + 1 := by rw [List.length_append]; rfl
  have hback : (R ++ [(k, o, (S ++ [e]).length)]).length ≤ 25 ∧ (S ++ [e]).length ≤ 40 → (CT c t (R ++ [(k, o, S.length)], S) ∧ CSl c t (slo S)) ∧ r = R.length + 1 ∧ s = S.length := fun hl => by
    rw [hlen, hlen2] at hl
    have hh := hex ⟨by show (R ++ [(k, o, S.length)]).length ≤ 25; rw [hlen]; exact hl.1, by show S.length ≤ 40; omega⟩
    refine ⟨hh, ?_, ?_⟩
    · have := hh.1.1
      rw [h3, show ((R ++ [(k, o, S.length)], S) : Trm).1.length = R.length + 1 from hlen _] at this
      exact (nIeq (by omega) (by omega)).mp this
    · have := hh.1.2.1
      rw [h8] at this
      exact (nIeq (by omega) (by show S.length < 2 ^ 31; omega)).mp this
  have hstay : ¬ (s < 40 ∧ 0 < r) → QDf t c m (R ++ [(k, o, (S ++ [e]).length)], S ++ [e]) (c, m) none := fun hg => qdi (DfS_rfl t c) ⟨⟨r, s, f, h3, h8, h10, hr, hs, hf⟩, fun hl => by
    obtain ⟨-, q1, q2⟩ := hback hl
    have hl2 : (S ++ [e]).length ≤ 40 := hl.2
    rw [hlen2] at hl2
    exact absurd ⟨by omega, by omega⟩ hg⟩
  refine ctr_ev 100 [] rfl rfl (bI (c := (40 : Int32) ≤ c.1 11 t 8) (fun h => ?_) (fun h => bI (c := c.1 11 t 3 ≤ 0) (fun h0 => ?_) (fun h0 => ?_)))
  · rw [h8, show (40 : Int32) = nI 40 from rfl, nIle (by decide) (by omega)] at h
    exact hstay (fun z => by omega)
  · rw [h3, show (0 : Int32) = nI 0 from rfl, nIle (by omega) (by decide)] at h0
    exact hstay (fun z => by omega)
  · rw [h8, show (40 : Int32) = nI 40 from rfl, nIle (by decide) (by omega)] at h
    rw [h3, show (0 : Int32) = nI 0 from rfl, nIle (by omega) (by decide)] at h0
    have hcl : (c.1 11 t 8).toNatClampNeg = s := pk_cl s h8
    have hin : vp_in (c.1 11 t 8) 40 := pk_in s 40 (by omega) h8
    refine dI hin (dI hin (dI hin ?_))
    have hw1 : ((c.1, upA (upA (upA c.2.1 15 t (c.1 11 t 8).toNatClampNeg (nI (kcd e.1))) 16 t (c.1 11 t 8).toNatClampNeg (nI e.2.1)) 17 t (c.1 11 t 8).toNatClampNeg (nI e.2.2.1), c.2.2) : Sd) = (c.1, upA (upA (upA c.2.1 15 t s (nI (kcd e.1))) 16 t s (nI e.2.1)) 17 t s (nI e.2.2.1), c.2.2) := by rw [hcl]
    generalize hc1 : ((c.1, upA (upA (upA c.2.1 15 t s (nI (kcd e.1))) 16 t s (nI e.2.1)) 17 t s (nI e.2.2.1), c.2.2) : Sd) = c1 at hw1
    have e1 : c1.1 = c.1 := by rw [← hc1]
    have e15 : c1.2.1 15 t = upd (c.2.1 15 t) s (nI (kcd e.1)) := by
      rw [← hc1]
      show upA (upA (upA c.2.1 15 t s (nI (kcd e.1))) 16 t s (nI e.2.1)) 17 t s (nI e.2.2.1) 15 t = _
      rw [upA_n _ _ (fun z => absurd z.1 (by decide)), upA_n _ _ (fun z => absurd z.1 (by decide)), upA_s]
    have e16 : c1.2.1 16 t = upd (c.2.1 16 t) s (nI e.2.1) := by
      rw [← hc1]
      show upA (upA (upA c.2.1 15 t s (nI (kcd e.1))) 16 t s (nI e.2.1)) 17 t s (nI e.2.2.1) 16 t = _
      rw [upA_n _ _ (fun z => absurd z.1 (by decide)), upA_s, upA_n _ _ (fun z => absurd z.1 (by decide))]
    have e17 : c1.2.1 17 t = upd (c.2.1 17 t) s (nI e.2.2.1) := by
      rw [← hc1]
      show upA (upA (upA c.2.1 15 t s (nI (kcd e.1))) 16 t s (nI e.2.1)) 17 t s (nI e.2.2.1) 17 t = _
      rw [upA_s, upA_n _ _ (fun z => absurd z.1 (by decide)), upA_n _ _ (fun z => absurd z.1 (by decide))]
    have eo : ∀ q, ¬ (15 ≤ q ∧ q ≤ 17) → c1.2.1 q t = c.2.1 q t := fun q hq => by
      rw [← hc1]
      show upA (upA (upA c.2.1 15 t s (nI (kcd e.1))) 16 t s (nI e.2.1)) 17 t s (nI e.2.2.1) q t = _
      rw [upA_n _ _ (fun z => hq (by omega)), upA_n _ _ (fun z => hq (by omega)), upA_n _ _ (fun z => hq (by omega))]
    have d1 : DfS t c c1 := by
      rw [← hc1]
      exact DfS_a (k := 17) (c' := (c.1, upA (upA c.2.1 15 t s (nI (kcd e.1))) 16 t s (nI e.2.1), c.2.2)) _ (by decide) (DfS_a (k := 16) (c' := (c.1, upA c.2.1 15 t s (nI (kcd e.1)), c.2.2)) _ (by decide) (DfS_a (k := 15) _ (by decide) (DfS_rfl t c)))
    have h10' : c1.1 11 t 10 = nI f := by rw [e1]; exact h10
    have hA1 := c_addNumber (c := c1) (m := m) (t := t) hf (show 2 * s < 80 by omega) h10' ma
    rw [← hw1] at hA1
    have hi1 : 2 * c.1 11 t 8 = nI (2 * s) := by rw [h8, show (2 : Int32) = nI 2 from rfl, pk_mul]
    rw [← hi1] at hA1
    refine iF hA1 (by decide) ?_
    rw [hw1]
    obtain ⟨d2, ⟨f2, hf2, g10⟩, g2, g18, go, gm1, gm2⟩ := aN_spec (pl := 2 * s) (c := c1) (t := t) hf h10' ma
    generalize hc2 : aN c1 t f (2 * s) ma = c2 at d2 g10 g2 g18 go gm1 gm2
    have h8' : c2.1 11 t 8 = nI s := by rw [g2 8 (by decide), e1]; exact h8
    have hi2 : 2 * c2.1 11 t 8 + 1 = nI (2 * s + 1) := by rw [h8', show (2 : Int32) = nI 2 from rfl, pk_mul, nI_succ]
    have hA2 := c_addNumber (c := c2) (m := m) (t := t) hf2 (show 2 * s + 1 < 80 by omega) g10 gi
    rw [← hi2] at hA2
    refine iF hA2 (by decide) ?_
    obtain ⟨d3, ⟨f3, hf3, k10⟩, k2, k18, ko, km1, km2⟩ := aN_spec (pl := 2 * s + 1) (c := c2) (t := t) hf2 g10 gi
    generalize hc3 : aN c2 t f2 (2 * s + 1) gi = c3 at d3 k10 k2 k18 ko km1 km2
    have h8'' : c3.1 11 t 8 = nI s := by rw [k2 8 (by decide)]; exact h8'
    have h3'' : c3.1 11 t 3 = nI r := by rw [k2 3 (by decide), g2 3 (by decide), e1]; exact h3
    have hi3 : c3.1 11 t 3 - 1 = nI (r - 1) := by rw [h3'', nI_sub1 (by omega)]
    have hi3' : up3 c3.1 11 t 8 (c3.1 11 t 8 + 1) 11 t 3 - 1 = nI (r - 1) := by rw [up3_n _ _ (fun z => absurd z.2.2 (by decide))]; exact hi3
    refine dI (pk_in (r - 1) 25 (by omega) hi3') ?_
    have hcl3 := pk_cl (r - 1) hi3'
    have dd3 := DfS_tr d1 (DfS_tr d2 d3)
    refine qdi (c' := (up3 c3.1 11 t 8 (c3.1 11 t 8 + 1), upA c3.2.1 14 t (up3 c3.1 11 t 8 (c3.1 11 t 8 + 1) 11 t 3 - 1).toNatClampNeg (up3 c3.1 11 t 8 (c3.1 11 t 8 + 1) 11 t 8), c3.2.2)) ?_ ?_
    · exact DfS_f (c' := (c3.1, upA c3.2.1 14 t _ _, c3.2.2)) _ (DfS_a (k := 14) _ (by decide) dd3)
    · have u8 : up3 c3.1 11 t 8 (c3.1 11 t 8 + 1) 11 t 8 = nI (s + 1) := by rw [up3_s, h8'', nI_succ]
      rw [hcl3, u8]
      have u3 : up3 c3.1 11 t 8 (c3.1 11 t 8 + 1) 11 t 3 = nI r := (up3_n _ _ (fun z => absurd z.2.2 (by decide))).trans h3''
      have u10 : up3 c3.1 11 t 8 (c3.1 11 t 8 + 1) 11 t 10 = c3.1 11 t 10 := up3_n _ _ (fun z => absurd z.2.2 (by decide))
      refine ⟨⟨r, s + 1, f3, u3, u8, u10.trans k10, hr, by omega, hf3⟩, fun hl => ?_⟩
      obtain ⟨⟨hT, hSl⟩, hrR, hsS⟩ := hback hl
      have hl2 : (S ++ [e]).length ≤ 40 := hl.2
      rw [hlen2] at hl2
      have hfl : f = (slo S).length := by
        have := hSl.1
        rw [h10] at this
        have h2 := sloF_len S 0
        exact (nIeq (by omega) (by unfold slo; omega)).mp this
      have hsl2 : (slo S).length ≤ 2 * S.length := sloF_len S 0
      have v14 : upA c3.2.1 14 t (r - 1) (nI (s + 1)) 14 t = upd (c.2.1 14 t) (r - 1) (nI (s + 1)) := by
        rw [upA_s, ko 14 (by decide) (by decide), go 14 (by decide) (by decide), eo 14 (by decide)]
      have vo : ∀ q, q ≠ 14 → upA c3.2.1 14 t (r - 1) (nI (s + 1)) q t = c3.2.1 q t := fun q hq => upA_n _ _ (fun z => hq z.1)
      have w12 : c3.2.1 12 t = c.2.1 12 t := by rw [ko 12 (by decide) (by decide), go 12 (by decide) (by decide), eo 12 (by decide)]
      have w13 : c3.2.1 13 t = c.2.1 13 t := by rw [ko 13 (by decide) (by decide), go 13 (by decide) (by decide), eo 13 (by decide)]
      have w15 : c3.2.1 15 t = upd (c.2.1 15 t) s (nI (kcd e.1)) := by rw [ko 15 (by decide) (by decide), go 15 (by decide) (by decide), e15]
      have w16 : c3.2.1 16 t = upd (c.2.1 16 t) s (nI e.2.1) := by rw [ko 16 (by decide) (by decide), go 16 (by decide) (by decide), e16]
      have w17 : c3.2.1 17 t = upd (c.2.1 17 t) s (nI e.2.2.1) := by rw [ko 17 (by decide) (by decide), go 17 (by decide) (by decide), e17]
      have w18 : c3.2.1 18 t = upd (upd (c.2.1 18 t) (2 * s) (if ma = -1 then 1 else ma)) (2 * s + 1) (if gi = -1 then 1 else gi) := by rw [k18, g18, eo 18 (by decide)]
      have hma : (if ma = -1 then 1 else ma) = nI e.2.2.2.1 := by
        have := ht.1
        split at this
        · rw [if_neg (by rw [this.1]; exact nI_m1 (by omega)), this.1]
        · rw [if_pos this.1, this.2]
          rfl
      have hgi : (if gi = -1 then 1 else gi) = nI e.2.2.2.2.1 := by
        have := ht.2
        split at this
        · rw [if_neg (by rw [this.1]; exact nI_m1 (by omega)), this.1]
        · rw [if_pos this.1, this.2]
          rfl
      refine ⟨⟨?_, ?_, fun q x hq => ?_, fun q x hq => ?_⟩, ?_⟩
      · show up3 c3.1 11 t 8 (c3.1 11 t 8 + 1) 11 t 3 = nI (R ++ [(k, o, (S ++ [e]).length)]).length
        rw [u3, hlen, hrR]
      · show up3 c3.1 11 t 8 (c3.1 11 t 8 + 1) 11 t 8 = nI (S ++ [e]).length
        rw [u8, hlen2, hsS]
      · show upA c3.2.1 14 t (r - 1) (nI (s + 1)) 12 t q = _ ∧ upA c3.2.1 14 t (r - 1) (nI (s + 1)) 13 t q = _ ∧ upA c3.2.1 14 t (r - 1) (nI (s + 1)) 14 t q = _
        rw [vo 12 (by decide), vo 13 (by decide), v14, w12, w13]
        rcases get_snoc hq with ⟨p1, p2⟩ | ⟨p1, p2⟩
        · rw [pk_un (by omega)]
          refine hT.2.2.1 q x ?_
          show (R ++ [(k, o, S.length)])[q]? = some x
          rw [List.getElem?_append_left p1]
          exact p2
        · subst p1 p2
          have hold := hT.2.2.1 R.length (k, o, S.length) (by
            show (R ++ [(k, o, S.length)])[R.length]? = _
            rw [List.getElem?_append_right (Nat.le_refl _), Nat.sub_self]
            rfl)
          refine ⟨hold.1, hold.2.1, ?_⟩
          rw [show r - 1 = R.length by omega, pk_us, hlen2, hsS]
      · show upA c3.2.1 14 t (r - 1) (nI (s + 1)) 15 t q = _ ∧ (_ → upA c3.2.1 14 t (r - 1) (nI (s + 1)) 16 t q = _ ∧ upA c3.2.1 14 t (r - 1) (nI (s + 1)) 17 t q = _ ∧ upA c3.2.1 14 t (r - 1) (nI (s + 1)) 18 t (2 * q) = _ ∧ upA c3.2.1 14 t (r - 1) (nI (s + 1)) 18 t (2 * q + 1) = _)
        rw [vo 15 (by decide), vo 16 (by decide), vo 17 (by decide), vo 18 (by decide), w15, w16, w17, w18]
        rcases get_snoc hq with ⟨p1, p2⟩ | ⟨p1, p2⟩
        · rw [pk_un (by omega), pk_un (by omega), pk_un (by omega), pk_un (by omega), pk_un (by omega), pk_un (by omega), pk_un (by omega)]
          exact hT.2.2.2 q x p2
        · subst p1 p2 hsS
          rw [pk_us, pk_us, pk_us, pk_us, pk_un (by omega), pk_us, hma, hgi]
          exact ⟨rfl, fun _ => ⟨rfl, rfl, rfl, rfl⟩⟩
      · show CSl _ t (slo (S ++ [e]))
        rw [slo_app]
        have q1 : CSl c2 t (slo S ++ (if 2 ≤ e.1 ∧ e.1 ≤ 4 then [(S.length, false)] else [])) := by
          have := ht.1
          split at this
          · rename_i hk24
            rw [if_pos hk24]
            have hne : ma ≠ -1 := by rw [this.1]; exact nI_m1 (by omega)
            obtain ⟨z1, z2⟩ := gm2 hne (by omega)
            refine CSl_snoc hSl (by rw [z1, hfl]) ?_
            rw [z2, eo 22 (by decide), hfl, hsS]
            rfl
          · rename_i hk24
            rw [if_neg hk24, List.append_nil]
            obtain ⟨z1, z2⟩ := gm1 this.1
            refine ⟨by rw [z1, hfl], fun q x hq => ?_⟩
            rw [z2, eo 22 (by decide)]
            exact hSl.2 q x hq
        have hf2l : f2 = (slo S ++ (if 2 ≤ e.1 ∧ e.1 ≤ 4 then [(S.length, false)] else [])).length ∧ f2 ≤ 2 * S.length + 1 := by
          have hlen3 : (slo S ++ (if 2 ≤ e.1 ∧ e.1 ≤ 4 then [(S.length, false)] else [])).length ≤ 2 * S.length + 1 := by
            rw [List.length_append]
            split <;> simp <;> omega
          have := q1.1
          rw [g10, nIeq (by omega) (by omega)] at this
          exact ⟨this, by omega⟩
        have q2 : CSl c3 t (slo S ++ sloE S.length e) := by
          unfold sloE
          rw [← List.append_assoc]
          have := ht.2
          split at this
          · rename_i hk24
            rw [if_pos hk24]
            have hne : gi ≠ -1 := by rw [this.1]; exact nI_m1 (by omega)
            obtain ⟨z1, z2⟩ := km2 hne (by omega)
            refine CSl_snoc q1 (by rw [z1, hf2l.1]) ?_
            rw [z2, hf2l.1, hsS]
            rfl
          · rename_i hk24
            rw [if_neg hk24, List.append_nil]
            obtain ⟨z1, z2⟩ := km1 this.1
            refine ⟨by rw [z1, hf2l.1], fun q x hq => ?_⟩
            rw [z2]
            exact q1.2 q x hq
        refine ⟨u10.trans q2.1, fun q x hq => ?_⟩
        show upA c3.2.1 14 t (r - 1) (nI (s + 1)) 22 t q = _
        rw [vo 22 (by decide)]
        exact q2.2 q x hq
end DRF
end
section
/-! the class: reading words, signs, numbers -/
def RfS (c c' : Sd) : Prop := (∀ k i f, ¬ (k = 3 ∧ i = 0 ∧ 5 ≤ f) → c'.1 k i f = c.1 k i f) ∧ c'.2 = c.2
theorem RfS_rfl (c : Sd) : RfS c c := ⟨fun _ _ _ _ => rfl, rfl⟩
theorem RfS_tr {a b c : Sd} (h : RfS a b) (h2 : RfS b c) : RfS a c := ⟨fun k i f h1 => (h2.1 k i f h1).trans (h.1 k i f h1), h2.2.trans h.2⟩
theorem RfS_f {c c' : Sd} {f : Nat} (hf : 5 ≤ f) (x : Int32) (h : RfS c c') : RfS c (up3 c'.1 3 0 f x, c'.2.1, c'.2.2) := ⟨fun k i g h1 => (up3_n c'.1 x (fun z => h1 ⟨z.1, z.2.1, by omega⟩)).trans (h.1 k i g h1), h.2⟩
def RB (tx : Nat → Nat) (L t : Nat) (c : Sd) : Prop := Tx tx L c ∧ Tk tx L c ∧ c.2.2 3 0 = t
theorem RB_rf {tx : Nat → Nat} {L t : Nat} {c c' : Sd} (h : RfS c c') (hB : RB tx L t c) : RB tx L t c' := by
  obtain ⟨⟨h1, h2⟩, h3, h4⟩ := hB
  unfold RB Tx Tk
  rw [h.2, h.1 1 0 1 (by decide)]
  exact ⟨⟨h1, h2⟩, h3, h4⟩
theorem Dr_rf {t : Nat} {c c' : Sd} {T : Trm} (h : RfS c c') (hD : Dr c t T) : Dr c' t T := by
  unfold Dr DR CT CSl cRul cStp at hD ⊢
  rw [h.2]
  have e : ∀ g, c'.1 11 t g = c.1 11 t g := fun g => h.1 11 t g (fun z => absurd z.1 (by decide))
  rw [e 3, e 8, e 10]
  exact hD
/-- at token k -/
def Ar (tx : Nat → Nat) (L k : Nat) (c : Sd) : Prop := c.1 3 0 5 = nI k ∧ vld tx L k
def nw (c : Sd) (k : Nat) : Sd := (up3 c.1 3 0 5 (nI (k + 1)), c.2.1, c.2.2)
theorem nw_rf (c : Sd) (k : Nat) : RfS c (nw c k) := RfS_f (by decide) _ (RfS_rfl c)
theorem nw_ar {tx : Nat → Nat} {L k : Nat} {c : Sd} (h : vld tx L k) (hl : pos tx L k < L) : Ar tx L (k + 1) (nw c k) := ⟨up3_s c.1 3 0 5 _, vld_succ h hl⟩
theorem nw_o (c : Sd) (k : Nat) {f : Nat} (hf : f ≠ 5) : (nw c k).1 3 0 f = c.1 3 0 f := up3_n (k := 3) (i := 0) (f := 5) (k' := 3) (i' := 0) (f' := f) c.1 (nI (k + 1)) (fun z => hf z.2.2)
section RDP
variable {tx : Nat → Nat} {L t k : Nat} {c m : Sd}
theorem tk_at (hL : L ≤ 120) (hB : RB tx L t c) (hA : Ar tx L k c) : vp_in (c.1 3 0 5) 121 ∧ c.2.1 4 0 (c.1 3 0 5).toNatClampNeg = nI (knd tx L (pos tx L k)) ∧ c.2.1 5 0 (c.1 3 0 5).toNatClampNeg = nI (pos tx L k) ∧ c.2.1 6 0 (c.1 3 0 5).toNatClampNeg = nI (tnd tx L (pos tx L k)) := by
  have hk := vld_le hA.2
  rw [pk_cl k hA.1]
  exact ⟨pk_in k 121 (by omega) hA.1, hB.2.1 k hA.2⟩
def fl (c : Sd) (x : Int32) (i : Nat) : Sd := (up3 (up3 c.1 3 0 12 x) 3 0 13 (nI i), c.2.1, c.2.2)
theorem c_fails (hL : L ≤ 120) (hB : RB tx L t c) (hA : Ar tx L k c) (x : Int32) : Fn 0 30 [vR false 3 0, vI x] (c, m) (fl c x (pos tx L k), m) (some (vI 0)) := by
  obtain ⟨h1, h2, h3, h4⟩ := tk_at hL hB hA
  refine ctr_ev 100 [] rfl rfl (dI (show vp_in (c.1 3 0 5) 121 from h1) (And.intro rfl (And.intro ?_ rfl)))
  show ((up3 (up3 c.1 3 0 12 x) 3 0 13 (c.2.1 5 0 (c.1 3 0 5).toNatClampNeg), c.2.1, c.2.2), m) = _
  rw [h3]
  rfl
theorem fl_rf (c : Sd) (x : Int32) (i : Nat) : RfS c (fl c x i) := RfS_f (c' := (up3 c.1 3 0 12 x, c.2.1, c.2.2)) (f := 13) (by decide) _ (RfS_f (by decide) _ (RfS_rfl c))
theorem fl_at (c : Sd) (x : Int32) (i : Nat) : (fl c x i).1 3 0 12 = x ∧ (fl c x i).1 3 0 13 = nI i := ⟨rfl, rfl⟩
theorem knd_lt (i : Nat) : knd tx L i < 5 := by
  unfold knd
  split
  · have := knO_lt (tx i)
    omega
  · omega
theorem c_isSign (hL : L ≤ 120) (hb : ∀ i, tx i < 256) (hB : RB tx L t c) (hA : Ar tx L k c) {b : Nat} (hbk : knO b = 3) (hb2 : b < 256) : Fn 0 29 [vR false 3 0, vI (nI b)] (c, m) (c, m) (some (vI (bi (isS tx L b (pos tx L k) = true)))) := by
  obtain ⟨h1, h2, h3, h4⟩ := tk_at hL hB hA
  have hkl := knd_lt (tx := tx) (L := L) (pos tx L k)
  refine ctr_ev 100 [] rfl rfl (dI h1 (bI (c := c.2.1 4 0 (c.1 3 0 5).toNatClampNeg = 3) (fun h => ?_) (fun h => ?_)))
  · rw [h2] at h
    have h : knd tx L (pos tx L k) = 3 := (nIeq (b := 3) (by omega) (by decide)).mp h
    have hpl : pos tx L k < L := by
      apply Classical.byContradiction
      intro z
      unfold knd at h
      rw [if_neg z] at h
      omega
    have hcl : (c.2.1 5 0 (c.1 3 0 5).toNatClampNeg).toNatClampNeg = pos tx L k := pk_cl _ h3
    have hby : c.2.1 2 0 (c.2.1 5 0 (c.1 3 0 5).toNatClampNeg).toNatClampNeg = nI (tx (pos tx L k)) := by rw [hcl]; exact hB.1.2 _ hpl
    have hbb := hb (pos tx L k)
    refine dI h1 (dI (pk_in (pos tx L k) 120 (by omega) h3) (bI (c := c.2.1 2 0 (c.2.1 5 0 (c.1 3 0 5).toNatClampNeg).toNatClampNeg = nI b) (fun h5 => ?_) (fun h5 => ?_)))
    · rw [hby, nIeq (by omega) (by omega)] at h5
      refine And.intro rfl (And.intro rfl ?_)
      rw [bi_t]
      unfold isS
      rw [h5]
      simp [hpl]
    · rw [hby, nIeq (by omega) (by omega)] at h5
      refine And.intro rfl (And.intro rfl ?_)
      rw [bi_f]
      unfold isS
      simp [h5]
  · rw [h2] at h
    have h : ¬ knd tx L (pos tx L k) = 3 := fun z => h (by rw [z]; rfl)
    refine And.intro rfl (And.intro rfl ?_)
    rw [bi_f]
    unfold isS
    rw [Bool.and_eq_true, decide_eq_true_eq, decide_eq_true_eq]
    rintro ⟨z1, z2⟩
    apply h
    unfold knd
    rw [if_pos z1, z2, hbk]
theorem chW_drop {i q kk : Nat} (h : kk < (wB q).length) : chW tx i ((wB q).drop kk) kk = (decide (tx (i + kk) = (wB q).getD kk 0) && chW tx i ((wB q).drop (kk + 1)) (kk + 1)) := by
  have e : (wB q).getD kk 0 = (wB q)[kk] := by
    rw [List.getD_eq_getElem?_getD, List.getElem?_eq_getElem h]
    rfl
  rw [List.drop_eq_getElem_cons h, e]
  rfl
theorem c_isWord (hL : L ≤ 120) (hb : ∀ i, tx i < 256) (hB : RB tx L t c) (hA : Ar tx L k c) {q : Nat} (hq : q < 17) : Fn 7 28 [vR false 3 0, vS q] (c, m) (c, m) (some (vI (bi (isW tx L q (pos tx L k) = true)))) := by
  obtain ⟨h1, h2, h3, h4⟩ := tk_at hL hB hA
  have hkl := knd_lt (tx := tx) (L := L) (pos tx L k)
  obtain ⟨hs1, hs2, hs3⟩ := wB_len q hq
  have hno : ¬ isW tx L q (pos tx L k) = true → (zok 0 ∧ (((c, m) : Wd) = (c, m) ∧ (some (vI 0) : Option PV) = some (vI (bi (isW tx L q (pos tx L k) = true))))) := fun z => ⟨rfl, rfl, by rw [bi_f z]⟩
  refine ctr_ev 100 [43] rfl rfl (dI h1 (bI (c := c.2.1 4 0 (c.1 3 0 5).toNatClampNeg = 1) (fun h => ?_) (fun h => ?_)))
  · rw [h2] at h
    have h : knd tx L (pos tx L k) = 1 := (nIeq (b := 1) (by omega) (by decide)).mp h
    have hpl : pos tx L k < L := by
      apply Classical.byContradiction
      intro z
      unfold knd at h
      rw [if_neg z] at h
      omega
    have hk1 : knO (tx (pos tx L k)) = 1 := by
      unfold knd at h
      rw [if_pos hpl] at h
      exact h
    have ht : tnd tx L (pos tx L k) = wd tx L (pos tx L k) := by
      unfold tnd
      rw [if_pos hpl, if_pos hk1]
    have hwl : wd tx L (pos tx L k) ≤ L := run_le (by omega)
    have hwg : pos tx L k ≤ wd tx L (pos tx L k) := run_ge _
    refine dI h1 (dI h1 (And.intro hq (And.intro (by decide) ?_)))
    have hsub : c.2.1 6 0 (c.1 3 0 5).toNatClampNeg - c.2.1 5 0 (c.1 3 0 5).toNatClampNeg = nI (wd tx L (pos tx L k) - pos tx L k) := by
      rw [h3, h4, ht, pk_sub hwg]
    refine bI (c := c.2.1 6 0 (c.1 3 0 5).toNatClampNeg - c.2.1 5 0 (c.1 3 0 5).toNatClampNeg = nI (sLen q)) (fun h5 => ?_) (fun h5 => ?_)
    · rw [hsub, hs1, nIeq (by omega) (by omega)] at h5
      have hwd : wd tx L (pos tx L k) = pos tx L k + (wB q).length := by omega
      have hv : isW tx L q (pos tx L k) = chW tx (pos tx L k) (wB q) 0 := by
        unfold isW
        rw [decide_eq_true hwd]
        rfl
      have key : ∀ (j kk : Nat) (x : Int32), kk + j = (wB q).length → x = nI kk → isW tx L q (pos tx L k) = chW tx (pos tx L k) ((wB q).drop kk) kk → Go 7 28 none 43 [some (vR false 3 0), some (vS q), some (vI x)] [] (c, m) (fun w' r' => w' = (c, m) ∧ r' = some (vI (bi (isW tx L q (pos tx L k) = true)))) := by
        intro j
        induction j with
        | zero =>
          intro kk x hj hx hv
          refine go_ev 100 [43] (And.intro hq (And.intro (by decide) (bT (c := nI (sLen q) ≤ x) (by rw [hx, hs1, nIle (by omega) (by omega)]; omega) (And.intro rfl (And.intro rfl ?_)))))
          rw [hv, List.drop_eq_nil_of_le (by omega)]
          rfl
        | succ j ih =>
          intro kk x hj hx hv
          subst hx
          obtain ⟨g1, g2⟩ := wB_ch q hq kk (by omega) (by omega)
          have hst : c.2.1 5 0 (c.1 3 0 5).toNatClampNeg + nI kk = nI (pos tx L k + kk) := by rw [h3, nIadd]
          have hcl := pk_cl (pos tx L k + kk) hst
          have hby : c.2.1 2 0 (c.2.1 5 0 (c.1 3 0 5).toNatClampNeg + nI kk).toNatClampNeg = nI (tx (pos tx L k + kk)) := by rw [hcl]; exact hB.1.2 _ (by omega)
          have hch : sCh q (nI kk).toNatClampNeg = nI ((wB q).getD kk 0) := by rw [pk_cl kk]; exact g1
          have hbb := hb (pos tx L k + kk)
          rw [chW_drop (by omega)] at hv
          refine go_ev 100 [43] (And.intro hq (And.intro (by decide) (bF (c := nI (sLen q) ≤ nI kk) (by rw [hs1, nIle (by omega) (by omega)]; omega) ?_)))
          refine dI h1 (dI (pk_in (pos tx L k + kk) 120 (by omega) hst) (And.intro hq (And.intro (by decide) (dI (pk_in kk (sLen q) (by omega) rfl (by omega)) ?_))))
          refine bI (c := c.2.1 2 0 (c.2.1 5 0 (c.1 3 0 5).toNatClampNeg + nI kk).toNatClampNeg = sCh q (nI kk).toNatClampNeg) (fun h6 => ?_) (fun h6 => ?_)
          · rw [hby, hch, nIeq (by omega) (by omega)] at h6
            refine ih (kk + 1) _ (by omega) (nI_succ kk).symm ?_
            rw [hv, decide_eq_true h6]
            rfl
          · rw [hby, hch, nIeq (by omega) (by omega)] at h6
            refine And.intro rfl (And.intro rfl ?_)
            rw [bi_f]
            rw [hv, decide_eq_false h6]
            exact Bool.false_ne_true
      exact key (wB q).length 0 0 (by omega) rfl hv
    · rw [hsub, hs1, nIeq (by omega) (by omega)] at h5
      refine hno (fun z => ?_)
      obtain ⟨-, -, z3, -⟩ := isW_lt hq z
      omega
  · rw [h2] at h
    have h : ¬ knd tx L (pos tx L k) = 1 := fun z => h (by rw [z]; rfl)
    refine hno (fun z => h ?_)
    obtain ⟨z1, z2, z3, -⟩ := isW_lt hq z
    unfold knd
    rw [if_pos z1, z2]
theorem c_takesT (hL : L ≤ 120) (hb : ∀ i, tx i < 256) (hB : RB tx L t c) (hA : Ar tx L k c) {q : Nat} (hq : q < 17) (h : isW tx L q (pos tx L k) = true) : Fn 8 27 [vR false 3 0, vS q] (c, m) (nw c k, m) (some (vI 1)) := by
  have hw := c_isWord (m := m) hL hb hB hA hq
  rw [bi_t h] at hw
  refine ctr_ev 100 [] rfl rfl (iF hw (by decide) (bF (c := (1 : Int32) = 0) (by decide) (And.intro rfl (And.intro ?_ rfl))))
  show ((up3 c.1 3 0 5 (c.1 3 0 5 + 1), c.2.1, c.2.2), m) = _
  rw [hA.1, ← nI_succ]
  rfl
theorem c_takesF (hL : L ≤ 120) (hb : ∀ i, tx i < 256) (hB : RB tx L t c) (hA : Ar tx L k c) {q : Nat} (hq : q < 17) (h : isW tx L q (pos tx L k) = false) : Fn 8 27 [vR false 3 0, vS q] (c, m) (c, m) (some (vI 0)) := by
  have hw := c_isWord (m := m) hL hb hB hA hq
  rw [bi_f (by rw [h]; exact Bool.false_ne_true)] at hw
  exact ctr_ev 100 [] rfl rfl (iF hw (by decide) (bT (c := (0 : Int32) = 0) rfl (And.intro rfl (And.intro rfl rfl))))
theorem pos_nx {q : Nat} (hq : q < 17) (h : isW tx L q (pos tx L k) = true) : pos tx L (k + 1) = nx tx L (pos tx L k) ∧ pos tx L k < L := by
  obtain ⟨h1, -, -, h4⟩ := isW_lt hq h
  refine ⟨?_, h1⟩
  show sk tx L (tnd tx L (pos tx L k)) = sk tx L (wd tx L (pos tx L k))
  rw [h4]
/-- what reading a number, or more, leaves: on a fault its number and place; else the parts -/
def FA (c : Sd) (f pl : Nat) (c' : Sd) : Prop := RfS c c' ∧ c'.1 3 0 12 = nI f ∧ c'.1 3 0 13 = nI pl
def QN (tx : Nat → Nat) (L k : Nat) (c m : Sd) (res : Rs (Nat × Nat)) : Wd → Option PV → Prop := fun w' r' => ∃ c', w' = (c', m) ∧ ((∃ f pl, res = .inl (f, pl) ∧ FA c f pl c' ∧ r' = some (vI 0)) ∨ (∃ v j, res = .inr (v, j) ∧ (RfS c c' ∧ Ar tx L (k + 1) c' ∧ j = pos tx L (k + 1) ∧ v < 100 ∧ c'.1 3 0 6 = nI v ∧ ∀ f, f ≠ 5 → f ≠ 6 → c'.1 3 0 f = c.1 3 0 f) ∧ r' = some (vI 1)))
theorem qnl {c' : Sd} {res : Rs (Nat × Nat)} {f pl : Nat} (h : res = .inl (f, pl)) (h2 : FA c f pl c') : QN tx L k c m res (c', m) (some (vI 0)) := ⟨c', rfl, Or.inl ⟨f, pl, h, h2, rfl⟩⟩
theorem qnr {c' : Sd} {res : Rs (Nat × Nat)} {v j : Nat} (h : res = .inr (v, j)) (h2 : RfS c c' ∧ Ar tx L (k + 1) c' ∧ j = pos tx L (k + 1) ∧ v < 100 ∧ c'.1 3 0 6 = nI v ∧ ∀ f, f ≠ 5 → f ≠ 6 → c'.1 3 0 f = c.1 3 0 f) : QN tx L k c m res (c', m) (some (vI 1)) := ⟨c', rfl, Or.inr ⟨v, j, h, h2, rfl⟩⟩
/-- the number's field, over and over -/
def nu (c : Sd) (x : Int32) : Sd := (up3 c.1 3 0 6 x, c.2.1, c.2.2)
theorem nu_nu (c : Sd) (x y : Int32) : nu (nu c x) y = nu c y := by
  unfold nu
  congr 1
  funext k i f
  show up3 (up3 c.1 3 0 6 x) 3 0 6 y k i f = up3 c.1 3 0 6 y k i f
  by_cases h : k = 3 ∧ i = 0 ∧ f = 6
  · obtain ⟨rfl, rfl, rfl⟩ := h
    rw [up3_s, up3_s]
  · rw [up3_n _ _ h, up3_n _ _ h, up3_n _ _ h]
theorem nu_rf (c : Sd) (x : Int32) : RfS c (nu c x) := RfS_f (by decide) _ (RfS_rfl c)
theorem dg2 {i : Nat} (h : dg tx L i ≤ i + 2) (hl : i < L) (hd : dgB (tx i) = true) : dg tx L i = i + 1 ∨ (dg tx L i = i + 2 ∧ i + 1 < L ∧ dgB (tx (i + 1)) = true) := by
  have h1 := run_pos (tx := tx) (P := dgB) hl hd
  have e : dg tx L i = run tx L dgB i := rfl
  rcases (show dg tx L i = i + 1 ∨ dg tx L i = i + 2 by omega) with h2 | h2
  · exact Or.inl h2
  · exact Or.inr ⟨h2, run_in (i := i) (j := i + 1) (by omega) (by omega)⟩
theorem dgB_iff {b : Nat} : dgB b = true ↔ 48 ≤ b ∧ b ≤ 57 := decide_eq_true_iff
theorem nuV_lt {i : Nat} (h : dg tx L i ≤ i + 2) (hl : i < L) (hd : dgB (tx i) = true) : nuV tx L i < 100 := by
  have h0 := dgB_iff.mp hd
  unfold nuV
  rcases dg2 h hl hd with h1 | ⟨h1, h2, h3⟩
  · rw [if_pos h1]
    omega
  · have h4 := dgB_iff.mp h3
    split
    · omega
    · omega
theorem c_readNumber (hL : L ≤ 120) (hb : ∀ i, tx i < 256) (hB : RB tx L t c) (hA : Ar tx L k c) {lo hi : Nat} (hlo : lo < 100) (hhi : hi < 100) : Ctr 1 26 [vR false 3 0, vI (nI lo), vI (nI hi)] (c, m) (QN tx L k c m (pNum tx L lo hi (pos tx L k))) := by
  obtain ⟨h1, h2, h3, h4⟩ := tk_at hL hB hA
  have hkl := knd_lt (tx := tx) (L := L) (pos tx L k)
  have hpl120 := pos_le (tx := tx) (L := L) k
  refine ctr_ev 100 [48] rfl rfl (dI h1 (bI (c := c.2.1 4 0 (c.1 3 0 5).toNatClampNeg = 2) (fun h => ?_) (fun h => ?_)))
  · rw [h2] at h
    have h : knd tx L (pos tx L k) = 2 := (nIeq (b := 2) (by omega) (by decide)).mp h
    have hpl : pos tx L k < L := by
      apply Classical.byContradiction
      intro z
      unfold knd at h
      rw [if_neg z] at h
      omega
    have hk2 : knO (tx (pos tx L k)) = 2 := by
      unfold knd at h
      rw [if_pos hpl] at h
      exact h
    have hd0 : dgB (tx (pos tx L k)) = true := knO_2.mp hk2
    have ht : tnd tx L (pos tx L k) = dg tx L (pos tx L k) := by
      unfold tnd
      rw [if_pos hpl, if_neg (by omega), if_pos hk2]
    have hdl : dg tx L (pos tx L k) ≤ L := run_le (by omega)
    have hdg : pos tx L k < dg tx L (pos tx L k) := run_pos (tx := tx) (P := dgB) hpl hd0
    have hsub : c.2.1 6 0 (c.1 3 0 5).toNatClampNeg - c.2.1 5 0 (c.1 3 0 5).toNatClampNeg = nI (dg tx L (pos tx L k) - pos tx L k) := by
      rw [h3, h4, ht, pk_sub (by omega)]
    have hnx : pos tx L (k + 1) = sk tx L (dg tx L (pos tx L k)) := by
      show sk tx L (tnd tx L (pos tx L k)) = _
      rw [ht]
    refine dI h1 (dI h1 (bI (c := c.2.1 6 0 (c.1 3 0 5).toNatClampNeg - c.2.1 5 0 (c.1 3 0 5).toNatClampNeg ≤ 2) (fun h5 => ?_) (fun h5 => ?_)))
    · rw [hsub, show (2 : Int32) = nI 2 from rfl, nIle (by omega) (by decide)] at h5
      have hd2 : dg tx L (pos tx L k) ≤ pos tx L k + 2 := by omega
      have hv100 := nuV_lt (tx := tx) hd2 hpl hd0
      have hb0 := dgB_iff.mp hd0
      have hcl : (c.2.1 5 0 (c.1 3 0 5).toNatClampNeg).toNatClampNeg = pos tx L k := pk_cl _ h3
      have hby : c.2.1 2 0 (c.2.1 5 0 (c.1 3 0 5).toNatClampNeg).toNatClampNeg = nI (tx (pos tx L k)) := by rw [hcl]; exact hB.1.2 _ hpl
      have hi0 : vp_in (c.2.1 5 0 (c.1 3 0 5).toNatClampNeg) 120 := pk_in (pos tx L k) 120 (by omega) h3
      /- behind the loop -/
      have h106 : ∀ (x3 : Int32) (w : Wd), w = (nu c (nI (nuV tx L (pos tx L k))), m) → Go 1 26 none 106 [some (vR false 3 0), some (vI (nI lo)), some (vI (nI hi)), some (vI x3)] [] w (QN tx L k c m (pNum tx L lo hi (pos tx L k))) := by
        intro x3 w hw
        subst hw
        have hrf := nu_rf c (nI (nuV tx L (pos tx L k)))
        have hA' : Ar tx L k (nu c (nI (nuV tx L (pos tx L k)))) := hA
        have hbad : ¬ (lo ≤ nuV tx L (pos tx L k) ∧ nuV tx L (pos tx L k) ≤ hi) → Go 1 26 none 122 [some (vR false 3 0), some (vI (nI lo)), some (vI (nI hi)), some (vI x3)] [] (nu c (nI (nuV tx L (pos tx L k))), m) (QN tx L k c m (pNum tx L lo hi (pos tx L k))) := by
          intro hz
          refine go_ev 100 [] (iF (c_fails hL (RB_rf hrf hB) hA' 2) (by decide) (And.intro rfl (qnl (f := 2) (pl := pos tx L k) ?_ ⟨RfS_tr hrf (fl_rf _ _ _), fl_at _ _ _⟩)))
          unfold pNum
          rw [if_pos ⟨hpl, hd0⟩, if_neg (fun z => hz z.2)]
        refine go_ev 100 [122] (bI (c := nI (nuV tx L (pos tx L k)) < nI lo) (fun h6 => ?_) (fun h6 => bI (c := nI (nuV tx L (pos tx L k)) ≤ nI hi) (fun h7 => ?_) (fun h7 => ?_)))
        · rw [nIlt (by omega) (by omega)] at h6
          exact hbad (by omega)
        · rw [nIlt (by omega) (by omega)] at h6
          rw [nIle (by omega) (by omega)] at h7
          have hw : ((up3 (nu c (nI (nuV tx L (pos tx L k)))).1 3 0 5 ((nu c (nI (nuV tx L (pos tx L k)))).1 3 0 5 + 1), c.2.1, c.2.2) : Sd) = nw (nu c (nI (nuV tx L (pos tx L k)))) k := by
            rw [hA'.1, ← nI_succ]
            rfl
          refine And.intro rfl (qnr (v := nuV tx L (pos tx L k)) (j := sk tx L (dg tx L (pos tx L k))) (c' := (up3 (nu c (nI (nuV tx L (pos tx L k)))).1 3 0 5 ((nu c (nI (nuV tx L (pos tx L k)))).1 3 0 5 + 1), c.2.1, c.2.2)) ?_ ?_)
          · unfold pNum
            rw [if_pos ⟨hpl, hd0⟩, if_pos ⟨hd2, by omega, by omega⟩]
          · rw [hw]
            refine ⟨RfS_tr hrf (nw_rf _ _), nw_ar hA.2 hpl, hnx.symm, hv100, ?_, fun f hf5 hf6 => ?_⟩
            · rw [nw_o _ _ (by decide)]
              exact up3_s c.1 3 0 6 _
            · rw [nw_o _ _ hf5]
              exact up3_n (k := 3) (i := 0) (f := 6) (k' := 3) (i' := 0) (f' := f) c.1 _ (fun z => hf6 z.2.2)
        · rw [nIle (by omega) (by omega)] at h7
          exact hbad (by omega)
      have hv1 : (10 : Int32) * 0 + nI (tx (pos tx L k)) - 48 = nI (tx (pos tx L k) - 48) := by
        rw [show (10 : Int32) * 0 = 0 from rfl, Int32.zero_add, show (48 : Int32) = nI 48 from rfl, pk_sub (by omega)]
      have hc1 : ¬ c.2.1 6 0 (c.1 3 0 5).toNatClampNeg ≤ c.2.1 5 0 (c.1 3 0 5).toNatClampNeg := by rw [h3, h4, ht, nIle (by omega) (by omega)]; omega
      have hx1 : c.2.1 5 0 (c.1 3 0 5).toNatClampNeg + 1 = nI (pos tx L k + 1) := by rw [h3, nI_succ]
      rcases dg2 hd2 hpl hd0 with hd1 | ⟨hd1, hd3, hd4⟩
      · have hv : nuV tx L (pos tx L k) = tx (pos tx L k) - 48 := by
          unfold nuV
          rw [if_pos hd1]
        refine go_ev 100 [106] (dI h1 (dI h1 (bF (c := c.2.1 6 0 (c.1 3 0 5).toNatClampNeg ≤ c.2.1 5 0 (c.1 3 0 5).toNatClampNeg) hc1 (dI hi0 (dI h1 (bT (c := c.2.1 6 0 (c.1 3 0 5).toNatClampNeg ≤ c.2.1 5 0 (c.1 3 0 5).toNatClampNeg + 1) (by rw [hx1, h4, ht, nIle (by omega) (by omega)]; omega) ?_))))))
        refine h106 _ _ ?_
        show ((nu (nu c 0) ((10 : Int32) * 0 + c.2.1 2 0 (c.2.1 5 0 (c.1 3 0 5).toNatClampNeg).toNatClampNeg - 48), m) : Wd) = _
        rw [nu_nu, hby, hv1, hv]
      · have hb1 := dgB_iff.mp hd4
        have hv : nuV tx L (pos tx L k) = 10 * (tx (pos tx L k) - 48) + (tx (pos tx L k + 1) - 48) := by
          unfold nuV
          rw [if_neg (by omega)]
        have hby1 : c.2.1 2 0 (c.2.1 5 0 (c.1 3 0 5).toNatClampNeg + 1).toNatClampNeg = nI (tx (pos tx L k + 1)) := by rw [pk_cl _ hx1]; exact hB.1.2 _ hd3
        have hv2 : (10 : Int32) * nI (tx (pos tx L k) - 48) + nI (tx (pos tx L k + 1)) - 48 = nI (10 * (tx (pos tx L k) - 48) + (tx (pos tx L k + 1) - 48)) := by
          rw [show (10 : Int32) = nI 10 from rfl, pk_mul, nIadd, show (48 : Int32) = nI 48 from rfl, pk_sub (by omega)]
          congr 1
          omega
        refine go_ev 200 [106] (dI h1 (dI h1 (bF (c := c.2.1 6 0 (c.1 3 0 5).toNatClampNeg ≤ c.2.1 5 0 (c.1 3 0 5).toNatClampNeg) hc1 (dI hi0 (dI h1 (bF (c := c.2.1 6 0 (c.1 3 0 5).toNatClampNeg ≤ c.2.1 5 0 (c.1 3 0 5).toNatClampNeg + 1) (by rw [hx1, h4, ht, nIle (by omega) (by omega)]; omega) ?_))))))
        have hx2 : c.2.1 5 0 (c.1 3 0 5).toNatClampNeg + 1 + 1 = nI (pos tx L k + 2) := by rw [hx1, ← nI_succ]
        refine dI (pk_in (pos tx L k + 1) 120 (by omega) hx1) (dI h1 (bT (c := c.2.1 6 0 (c.1 3 0 5).toNatClampNeg ≤ c.2.1 5 0 (c.1 3 0 5).toNatClampNeg + 1 + 1) (by rw [hx2, h4, ht, nIle (by omega) (by omega)]; omega) ?_))
        refine h106 _ _ ?_
        show ((nu (nu (nu c 0) ((10 : Int32) * 0 + c.2.1 2 0 (c.2.1 5 0 (c.1 3 0 5).toNatClampNeg).toNatClampNeg - 48)) ((10 : Int32) * ((10 : Int32) * 0 + c.2.1 2 0 (c.2.1 5 0 (c.1 3 0 5).toNatClampNeg).toNatClampNeg - 48) + c.2.1 2 0 (c.2.1 5 0 (c.1 3 0 5).toNatClampNeg + 1).toNatClampNeg - 48), m) : Wd) = _
        rw [nu_nu, nu_nu, hby, hv1, hby1, hv2, hv]
    · rw [hsub, show (2 : Int32) = nI 2 from rfl, nIle (by omega) (by decide)] at h5
      refine iF (c_fails hL hB hA 2) (by decide) (And.intro rfl (qnl (f := 2) (pl := pos tx L k) ?_ ⟨fl_rf _ _ _, fl_at _ _ _⟩))
      unfold pNum
      rw [if_pos ⟨hpl, hd0⟩, if_neg (fun z => by omega)]
  · rw [h2] at h
    have h : ¬ knd tx L (pos tx L k) = 2 := fun z => h (by rw [z]; rfl)
    refine iF (c_fails hL hB hA 1) (by decide) (And.intro rfl (qnl (f := 1) (pl := pos tx L k) ?_ ⟨fl_rf _ _ _, fl_at _ _ _⟩))
    unfold pNum
    rw [if_neg]
    rintro ⟨z1, z2⟩
    apply h
    unfold knd
    rw [if_pos z1]
    exact knO_2.mpr z2
end RDP
end
section
/-! the class: one condition -/
def QP {α : Type} (tx : Nat → Nat) (L : Nat) (c m : Sd) (res : Rs α) (ok : α → Nat → Sd → Prop) : Wd → Option PV → Prop := fun w' r' => ∃ c', w' = (c', m) ∧ ((∃ f pl, res = .inl (f, pl) ∧ FA c f pl c' ∧ r' = some (vI 0)) ∨ (∃ a k', res = .inr a ∧ RfS c c' ∧ Ar tx L k' c' ∧ ok a k' c' ∧ r' = some (vI 1)))
theorem qpl {α : Type} {tx : Nat → Nat} {L : Nat} {c m c' : Sd} {res : Rs α} {ok : α → Nat → Sd → Prop} {f pl : Nat} (h : res = .inl (f, pl)) (h2 : FA c f pl c') : QP tx L c m res ok (c', m) (some (vI 0)) := ⟨c', rfl, Or.inl ⟨f, pl, h, h2, rfl⟩⟩
theorem qpr {α : Type} {tx : Nat → Nat} {L : Nat} {c m c' : Sd} {res : Rs α} {ok : α → Nat → Sd → Prop} {a : α} {k' : Nat} (h : res = .inr a) (h1 : RfS c c') (h2 : Ar tx L k' c') (h3 : ok a k' c') : QP tx L c m res ok (c', m) (some (vI 1)) := ⟨c', rfl, Or.inr ⟨a, k', h, h1, h2, h3, rfl⟩⟩
/-- a field of the reader -/
def pf (c : Sd) (f : Nat) (x : Int32) : Sd := (up3 c.1 3 0 f x, c.2.1, c.2.2)
theorem pf_s (c : Sd) (f : Nat) (x : Int32) : (pf c f x).1 3 0 f = x := up3_s c.1 3 0 f x
theorem pf_n (c : Sd) {f g : Nat} (x : Int32) (h : g ≠ f) : (pf c f x).1 3 0 g = c.1 3 0 g := up3_n (k := 3) (i := 0) (f := f) (k' := 3) (i' := 0) (f' := g) c.1 x (fun z => h z.2.2)
theorem pf_rf (c : Sd) {f : Nat} (hf : 5 ≤ f) (x : Int32) : RfS c (pf c f x) := RfS_f hf _ (RfS_rfl c)
theorem pf_ar {tx : Nat → Nat} {L k : Nat} {c : Sd} {f : Nat} (x : Int32) (hf : f ≠ 5) (h : Ar tx L k c) : Ar tx L k (pf c f x) := ⟨(pf_n c x (Ne.symm hf)).trans h.1, h.2⟩
section CND
variable {tx : Nat → Nat} {L t k : Nat} {c m : Sd}
theorem c_forget : Fn 0 20 [vR false 3 0] (c, m) (pf (pf (pf (pf c 7 (-1)) 8 0) 9 5) 10 (-1), m) none := ctr_ev 100 [] rfl rfl (And.intro rfl rfl)
theorem c_readMany (hL : L ≤ 120) (hb : ∀ i, tx i < 256) (hB : RB tx L t c) (hA : Ar tx L k c) {lo hi : Nat} (hlo : lo < 100) (hhi : hi < 100) : Ctr 2 22 [vR false 3 0, vI (nI lo), vI (nI hi)] (c, m) (QP tx L c m (pNum tx L lo hi (pos tx L k)) (fun a k' c' => a.2 = pos tx L k' ∧ a.1 < 100 ∧ c'.1 3 0 7 = nI a.1 ∧ ∀ f, f ≠ 5 → f ≠ 6 → f ≠ 7 → c'.1 3 0 f = c.1 3 0 f)) := by
  refine ctr_ev 100 [] rfl rfl (iC (c_readNumber hL hb hB hA hlo hhi) (by decide) ?_)
  rintro _ _ ⟨c2, rfl, ⟨f, pl, hr, ⟨hF, h12, h13⟩, rfl⟩ | ⟨v, j, hr, ⟨h1, h2, h3, h4, h5, h6⟩, rfl⟩⟩
  · refine And.intro rfl (qpl (c' := pf c2 7 (c2.1 3 0 6)) hr ⟨RfS_tr hF (pf_rf c2 (by decide) _), (pf_n c2 _ (by decide)).trans h12, (pf_n c2 _ (by decide)).trans h13⟩)
  · refine And.intro rfl (qpr (c' := pf c2 7 (c2.1 3 0 6)) hr (RfS_tr h1 (pf_rf c2 (by decide) _)) (pf_ar _ (by decide) h2) ⟨h3, h4, (pf_s c2 7 _).trans h5, fun f f5 f6 f7 => (pf_n c2 _ f7).trans (h6 f f5 f6)⟩)
theorem c_readPerson (hL : L ≤ 120) (hb : ∀ i, tx i < 256) (hB : RB tx L t c) (hA : Ar tx L k c) : Ctr 2 23 [vR false 3 0] (c, m) (QP tx L c m (pNum tx L 0 5 (pos tx L k)) (fun a k' c' => a.2 = pos tx L k' ∧ a.1 < 100 ∧ c'.1 3 0 8 = nI a.1 ∧ ∀ f, f ≠ 5 → f ≠ 6 → f ≠ 8 → c'.1 3 0 f = c.1 3 0 f)) := by
  refine ctr_ev 100 [] rfl rfl (iC (c_readNumber (lo := 0) (hi := 5) hL hb hB hA (by decide) (by decide)) (by decide) ?_)
  rintro _ _ ⟨c2, rfl, ⟨f, pl, hr, ⟨hF, h12, h13⟩, rfl⟩ | ⟨v, j, hr, ⟨h1, h2, h3, h4, h5, h6⟩, rfl⟩⟩
  · refine And.intro rfl (qpl (c' := pf c2 8 (c2.1 3 0 6)) hr ⟨RfS_tr hF (pf_rf c2 (by decide) _), (pf_n c2 _ (by decide)).trans h12, (pf_n c2 _ (by decide)).trans h13⟩)
  · refine And.intro rfl (qpr (c' := pf c2 8 (c2.1 3 0 6)) hr (RfS_tr h1 (pf_rf c2 (by decide) _)) (pf_ar _ (by decide) h2) ⟨h3, h4, (pf_s c2 8 _).trans h5, fun f f5 f6 f7 => (pf_n c2 _ f7).trans (h6 f f5 f6)⟩)
theorem c_readGive (hL : L ≤ 120) (hb : ∀ i, tx i < 256) (hB : RB tx L t c) (hA : Ar tx L k c) {q : Nat} (hq : q < 17) : Ctr 9 25 [vR false 3 0, vS q] (c, m) (QP tx L c m (pGive tx L q (pos tx L k)) (fun a k' c' => a.2 = pos tx L k' ∧ (match a.1 with
    | none => c'.1 3 0 10 = c.1 3 0 10
    | some v => v < 100 ∧ c'.1 3 0 10 = nI v) ∧ ∀ f, f ≠ 5 → f ≠ 6 → f ≠ 10 → c'.1 3 0 f = c.1 3 0 f)) := by
  cases h : isW tx L q (pos tx L k) with
  | false =>
    refine ctr_ev 100 [] rfl rfl (iF (c_takesF hL hb hB hA hq h) (by decide) (bT (c := (0 : Int32) = 0) rfl (And.intro rfl (qpr (a := (none, pos tx L k)) (k' := k) ?_ (RfS_rfl c) hA ⟨rfl, rfl, fun _ _ _ _ => rfl⟩))))
    unfold pGive
    rw [if_neg (by rw [h]; exact Bool.false_ne_true)]
  | true =>
    obtain ⟨hp1, hp2⟩ := pos_nx hq h
    have hg : pGive tx L q (pos tx L k) = (match pNum tx L 0 3 (pos tx L (k + 1)) with
      | .inl x => .inl x
      | .inr (v, j) => .inr (some v, j)) := by
      unfold pGive
      rw [if_pos h, ← hp1]
      rfl
    rw [hg]
    refine ctr_ev 100 [] rfl rfl (iF (c_takesT hL hb hB hA hq h) (by decide) (bF (c := (1 : Int32) = 0) (by decide) ?_))
    refine iC (c_readNumber (lo := 0) (hi := 3) hL hb (RB_rf (nw_rf c k) hB) (nw_ar hA.2 hp2) (by decide) (by decide)) (by decide) ?_
    rintro _ _ ⟨c2, rfl, ⟨f, pl, hr, ⟨hF, h12, h13⟩, rfl⟩ | ⟨v, j, hr, ⟨h1, h2, h3, h4, h5, h6⟩, rfl⟩⟩
    · refine And.intro rfl (qpl (c' := pf c2 10 (c2.1 3 0 6)) (by rw [hr]) ⟨RfS_tr (nw_rf c k) (RfS_tr hF (pf_rf c2 (by decide) _)), (pf_n c2 _ (by decide)).trans h12, (pf_n c2 _ (by decide)).trans h13⟩)
    · refine And.intro rfl (qpr (a := (some v, j)) (c' := pf c2 10 (c2.1 3 0 6)) (by rw [hr]) (RfS_tr (nw_rf c k) (RfS_tr h1 (pf_rf c2 (by decide) _))) (pf_ar _ (by decide) h2) ⟨h3, ⟨h4, (pf_s c2 10 _).trans h5⟩, fun f f5 f6 f7 => (pf_n c2 _ f7).trans ((h6 f f5 f6).trans (nw_o c k f5))⟩)
theorem c_readRange (hL : L ≤ 120) (hb : ∀ i, tx i < 256) (hB : RB tx L t c) (hA : Ar tx L k c) (h8 : c.1 3 0 8 = nI 0) (h9 : c.1 3 0 9 = nI 5) : Ctr 9 24 [vR false 3 0] (c, m) (QP tx L c m (pRange tx L (pos tx L k)) (fun a k' c' => a.2.2 = pos tx L k' ∧ (c'.1 3 0 8 = nI a.1 ∧ c'.1 3 0 9 = nI a.2.1) ∧ ∀ f, f ≠ 5 → f ≠ 6 → f ≠ 8 → f ≠ 9 → c'.1 3 0 f = c.1 3 0 f)) := by
  cases h : isW tx L 15 (pos tx L k) with
  | false =>
    refine ctr_ev 100 [] rfl rfl (iF (c_takesF hL hb hB hA (by decide) h) (by decide) (bT (c := (0 : Int32) = 0) rfl (And.intro rfl (qpr (a := (0, 5, pos tx L k)) (k' := k) ?_ (RfS_rfl c) hA ⟨rfl, ⟨h8, h9⟩, fun _ _ _ _ _ => rfl⟩))))
    unfold pRange
    rw [if_neg (by rw [h]; exact Bool.false_ne_true)]
  | true =>
    obtain ⟨hp1, hp2⟩ := pos_nx (by decide) h
    have hg : pRange tx L (pos tx L k) = (match pNum tx L 0 5 (pos tx L (k + 1)) with
      | .inl x => .inl x
      | .inr (f, j) => if isW tx L 16 j = true then (match pNum tx L 0 5 (nx tx L j) with
          | .inl x => .inl x
          | .inr (t, l) => if t < f then .inl (3, nx tx L j) else .inr (f, t, l)) else .inl (1, j)) := by
      unfold pRange
      rw [if_pos h, ← hp1]
      rfl
    rw [hg]
    refine ctr_ev 100 [] rfl rfl (iF (c_takesT hL hb hB hA (by decide) h) (by decide) (bF (c := (1 : Int32) = 0) (by decide) ?_))
    have hB1 := RB_rf (nw_rf c k) hB
    refine iC (c_readNumber (lo := 0) (hi := 5) hL hb hB1 (nw_ar hA.2 hp2) (by decide) (by decide)) (by decide) ?_
    rintro _ _ ⟨c2, rfl, ⟨f, pl, hr, ⟨hF, h12, h13⟩, rfl⟩ | ⟨v, j, hr, ⟨h1, h2, h3, h4, h5, h6⟩, rfl⟩⟩
    · refine bT (c := (0 : Int32) = 0) rfl (And.intro rfl (qpl (by rw [hr]) ⟨RfS_tr (nw_rf c k) hF, h12, h13⟩))
    · refine bF (c := (1 : Int32) = 0) (by decide) ?_
      subst h3
      have hrf3 : RfS c (pf c2 8 (c2.1 3 0 6)) := RfS_tr (nw_rf c k) (RfS_tr h1 (pf_rf c2 (by decide) _))
      have hB3 := RB_rf hrf3 hB
      have hA3 : Ar tx L (k + 1 + 1) (pf c2 8 (c2.1 3 0 6)) := pf_ar _ (by decide) h2
      cases h16 : isW tx L 16 (pos tx L (k + 1 + 1)) with
      | false =>
        refine iF (c_takesF hL hb hB3 hA3 (by decide) h16) (by decide) (bT (c := (0 : Int32) = 0) rfl ?_)
        refine iF (c_fails hL hB3 hA3 1) (by decide) (And.intro rfl (qpl (f := 1) (pl := pos tx L (k + 1 + 1)) ?_ ⟨RfS_tr hrf3 (fl_rf _ _ _), fl_at _ _ _⟩))
        rw [hr]
        show (if isW tx L 16 (pos tx L (k + 1 + 1)) = true then _ else _) = _
        rw [if_neg (by rw [h16]; exact Bool.false_ne_true)]
      | true =>
        obtain ⟨hp3, hp4⟩ := pos_nx (by decide) h16
        refine iF (c_takesT hL hb hB3 hA3 (by decide) h16) (by decide) (bF (c := (1 : Int32) = 0) (by decide) ?_)
        refine iC (c_readNumber (lo := 0) (hi := 5) hL hb (RB_rf (nw_rf _ _) hB3) (nw_ar hA3.2 hp4) (by decide) (by decide)) (by decide) ?_
        have hres : ∀ r, pNum tx L 0 5 (pos tx L (k + 1 + 1 + 1)) = r → (match pNum tx L 0 5 (pos tx L (k + 1)) with
          | .inl x => (.inl x : Rs (Nat × Nat × Nat))
          | .inr (f, j) => if isW tx L 16 j = true then (match pNum tx L 0 5 (nx tx L j) with
              | .inl x => .inl x
              | .inr (t, l) => if t < f then .inl (3, nx tx L j) else .inr (f, t, l)) else .inl (1, j)) = (match r with
              | .inl x => .inl x
              | .inr (t, l) => if t < v then .inl (3, pos tx L (k + 1 + 1 + 1)) else .inr (v, t, l)) := by
          intro r hr2
          rw [hr]
          show (if isW tx L 16 (pos tx L (k + 1 + 1)) = true then _ else _) = _
          rw [if_pos h16, ← hp3, hr2]
        rintro _ _ ⟨c4, rfl, ⟨f, pl, hr2, ⟨hF, h12, h13⟩, rfl⟩ | ⟨v2, j2, hr2, ⟨g1, g2, g3, g4, g5, g6⟩, rfl⟩⟩
        · refine bT (c := (0 : Int32) = 0) rfl (And.intro rfl (qpl ?_ ⟨RfS_tr hrf3 (RfS_tr (nw_rf _ _) hF), h12, h13⟩))
          rw [hres _ hr2]
        · refine bF (c := (1 : Int32) = 0) (by decide) ?_
          have hrf5 : RfS c (pf c4 9 (c4.1 3 0 6)) := RfS_tr hrf3 (RfS_tr (nw_rf _ _) (RfS_tr g1 (pf_rf c4 (by decide) _)))
          have hB5 := RB_rf hrf5 hB
          have hA5 : Ar tx L (k + 1 + 1 + 1 + 1) (pf c4 9 (c4.1 3 0 6)) := pf_ar _ (by decide) g2
          have e9 : (pf c4 9 (c4.1 3 0 6)).1 3 0 9 = nI v2 := (pf_s c4 9 _).trans g5
          have e8 : (pf c4 9 (c4.1 3 0 6)).1 3 0 8 = nI v := by
            rw [pf_n c4 _ (by decide), g6 8 (by decide) (by decide), nw_o _ _ (by decide), pf_s, h5]
          refine bI (c := (pf c4 9 (c4.1 3 0 6)).1 3 0 8 ≤ (pf c4 9 (c4.1 3 0 6)).1 3 0 9) (fun hle => ?_) (fun hle => ?_)
          · rw [e8, e9, nIle (by omega) (by omega)] at hle
            refine And.intro rfl (qpr (a := (v, v2, j2)) (c' := pf c4 9 (c4.1 3 0 6)) ?_ hrf5 hA5 ⟨g3, ⟨e8, e9⟩, fun f f5 f6 f8 f9 => ?_⟩)
            · rw [hres _ hr2]
              show (if v2 < v then _ else _) = _
              rw [if_neg (by omega)]
            · rw [pf_n c4 _ f9, g6 f f5 f6, nw_o _ _ f5, pf_n c2 _ f8, h6 f f5 f6, nw_o _ _ f5]
          · rw [e8, e9, nIle (by omega) (by omega)] at hle
            have hn1 : (pf c4 9 (c4.1 3 0 6)).1 3 0 5 - 1 = nI (k + 1 + 1 + 1) := by
              rw [hA5.1, nI_sub1 (by omega)]
              rfl
            have hA6 : Ar tx L (k + 1 + 1 + 1) (pf (pf c4 9 (c4.1 3 0 6)) 5 ((pf c4 9 (c4.1 3 0 6)).1 3 0 5 - 1)) := ⟨(pf_s _ 5 _).trans hn1, fun j hj => hA5.2 j (by omega)⟩
            have hrf6 : RfS c (pf (pf c4 9 (c4.1 3 0 6)) 5 ((pf c4 9 (c4.1 3 0 6)).1 3 0 5 - 1)) := RfS_tr hrf5 (pf_rf _ (by decide) _)
            refine iF (c_fails hL (RB_rf hrf6 hB) hA6 3) (by decide) (And.intro rfl (qpl (f := 3) (pl := pos tx L (k + 1 + 1 + 1)) ?_ ⟨RfS_tr hrf6 (fl_rf _ _ _), fl_at _ _ _⟩))
            rw [hres _ hr2]
            show (if v2 < v then _ else _) = _
            rw [if_pos (by omega)]
end CND
end
section
/-! the class: conditions, level by level -/
def RdS (t : Nat) (c c' : Sd) : Prop := (∀ k i f, ¬ (k = 3 ∧ i = 0 ∧ 5 ≤ f) → ¬ (k = 11 ∧ i = t) → c'.1 k i f = c.1 k i f) ∧ (∀ k i, ¬ ((12 ≤ k ∧ k ≤ 22) ∧ i = t) → c'.2.1 k i = c.2.1 k i) ∧ c'.2.2 = c.2.2
theorem RdS_rf {t : Nat} {c c' : Sd} (h : RfS c c') : RdS t c c' := ⟨fun k i f h1 _ => h.1 k i f h1, fun _ _ _ => by rw [h.2], by rw [h.2]⟩
theorem RdS_df {t : Nat} {c c' : Sd} (h : DfS t c c') : RdS t c c' := ⟨fun k i f _ h1 => h.1 k i f h1, h.2.1, h.2.2⟩
theorem RdS_tr {t : Nat} {a b c : Sd} (h : RdS t a b) (h2 : RdS t b c) : RdS t a c := ⟨fun k i f h1 h3 => (h2.1 k i f h1 h3).trans (h.1 k i f h1 h3), fun k i h1 => (h2.2.1 k i h1).trans (h.2.1 k i h1), h2.2.2.trans h.2.2⟩
theorem RdS_rfl (t : Nat) (c : Sd) : RdS t c c := RdS_rf (RfS_rfl c)
theorem RB_rd {tx : Nat → Nat} {L t : Nat} {c c' : Sd} (h : RdS t c c') (hB : RB tx L t c) : RB tx L t c' := by
  obtain ⟨⟨h1, h2⟩, h3, h4⟩ := hB
  unfold RB Tx Tk
  rw [h.2.2, h.1 1 0 1 (by decide) (by omega), h.2.1 2 0 (by omega), h.2.1 4 0 (by omega), h.2.1 5 0 (by omega), h.2.1 6 0 (by omega)]
  exact ⟨⟨h1, h2⟩, h3, h4⟩
def QC (tx : Nat → Nat) (L t : Nat) (c m : Sd) (Ro : List (Nat × Nat × Nat)) (k0 o0 : Nat) (S : List StpT) (res : Rs (List StpT × Nat)) : Wd → Option PV → Prop := fun w' r' => ∃ c', w' = (c', m) ∧ RdS t c c' ∧ ((∃ f pl, res = .inl (f, pl) ∧ DR c' t ∧ c'.1 3 0 12 = nI f ∧ c'.1 3 0 13 = nI pl ∧ r' = some (vI 0)) ∨ (∃ A j k', res = .inr (A, j) ∧ Ar tx L k' c' ∧ j = pos tx L k' ∧ Dr c' t (Ro ++ [(k0, o0, (S ++ A).length)], S ++ A) ∧ c'.1 3 0 13 = c.1 3 0 13 ∧ r' = some (vI 1)))
section ONE
variable {tx : Nat → Nat} {L t k d : Nat} {c m : Sd} {Ro : List (Nat × Nat × Nat)} {k0 o0 : Nat} {S : List StpT}
theorem qcl {c' : Sd} {res : Rs (List StpT × Nat)} {f pl : Nat} (h : res = .inl (f, pl)) (h1 : RdS t c c') (h2 : DR c' t) (h3 : c'.1 3 0 12 = nI f) (h4 : c'.1 3 0 13 = nI pl) : QC tx L t c m Ro k0 o0 S res (c', m) (some (vI 0)) := ⟨c', rfl, h1, Or.inl ⟨f, pl, h, h2, h3, h4, rfl⟩⟩
theorem qcr {c' : Sd} {res : Rs (List StpT × Nat)} {A : List StpT} {j k' : Nat} (h : res = .inr (A, j)) (h1 : RdS t c c') (h2 : Ar tx L k' c') (h3 : j = pos tx L k') (h4 : Dr c' t (Ro ++ [(k0, o0, (S ++ A).length)], S ++ A)) (h5 : c'.1 3 0 13 = c.1 3 0 13) : QC tx L t c m Ro k0 o0 S res (c', m) (some (vI 1)) := ⟨c', rfl, h1, Or.inr ⟨A, j, k', h, h2, h3, h4, h5, rfl⟩⟩
def QA (t : Nat) (c m : Sd) (T : Trm) : Wd → Option PV → Prop := fun w' r' => ∃ c', w' = (c', m) ∧ DfS t c c' ∧ Dr c' t T ∧ r' = some (vI 1)
theorem c_adds {e : StpT} (hB : RB tx L t c) (hD : Dr c t (Ro ++ [(k0, o0, S.length)], S)) (h8 : c.1 3 0 8 = nI e.2.1) (h9 : c.1 3 0 9 = nI e.2.2.1) (ht : tld e (c.1 3 0 7) (c.1 3 0 10)) : Ctr 2 21 [vR false 3 0, vI (nI (kcd e.1))] (c, m) (QA t c m (Ro ++ [(k0, o0, (S ++ [e]).length)], S ++ [e])) := by
  have hAS : Ctr 1 38 [vR false 11 (c.2.2 3 0), vI (nI (kcd e.1)), vI (c.1 3 0 8), vI (c.1 3 0 9), vI (c.1 3 0 7), vI (c.1 3 0 10)] (c, m) (QDf t c m (Ro ++ [(k0, o0, (S ++ [e]).length)], S ++ [e])) := by
    rw [hB.2.2, h8, h9]
    exact c_addStep hD ht
  refine ctr_ev 100 [] rfl rfl (iC hAS (by decide) ?_)
  rintro _ _ ⟨c', rfl, h1, h2, rfl⟩
  exact And.intro rfl ⟨c', rfl, h1, h2, rfl⟩
/-! the pure reader, case by case -/
theorem pb_who1 {i : Nat} {x : Nat × Nat} (h : isW tx L 8 i = true) (h1 : pNum tx L 0 5 (nx tx L i) = .inl x) : pBase tx L i = .inl x := by
  simp [pBase, pCond, h, h1]
theorem pb_who2 {i : Nat} {x : Nat × Nat} {f j : Nat} (h : isW tx L 8 i = true) (h1 : pNum tx L 0 5 (nx tx L i) = .inr (f, j)) (h2 : pGive tx L 9 j = .inl x) : pBase tx L i = .inl x := by
  simp [pBase, pCond, h, h1, h2]
theorem pb_who3 {i : Nat} {f j l : Nat} {g : Option Nat} (h : isW tx L 8 i = true) (h1 : pNum tx L 0 5 (nx tx L i) = .inr (f, j)) (h2 : pGive tx L 9 j = .inr (g, l)) : pBase tx L i = .inr ([(0, f, 5, 1, giv g, g.isSome)], l) := by
  simp [pBase, pCond, h, h1, h2]
theorem pb_all {i : Nat} (h : isW tx L 8 i = false) (h2 : isW tx L 10 i = true) : pBase tx L i = match pSpan tx L 1 1 (nx tx L i) with
    | .inl x => .inl x
    | .inr (e, j) => .inr ([e], j) := by
  simp [pBase, pCond, h, h2]
  rfl
theorem pb_any1 {i : Nat} {x : Nat × Nat} (h : isW tx L 8 i = false) (h2 : isW tx L 10 i = false) (h3 : isW tx L 12 i = true) (h1 : pNum tx L 0 6 (nx tx L i) = .inl x) : pBase tx L i = .inl x := by
  simp [pBase, pCond, h, h2, h3, h1]
theorem pb_any2 {i v j : Nat} (h : isW tx L 8 i = false) (h2 : isW tx L 10 i = false) (h3 : isW tx L 12 i = true) (h1 : pNum tx L 0 6 (nx tx L i) = .inr (v, j)) : pBase tx L i = match pSpan tx L 2 v j with
    | .inl x => .inl x
    | .inr (e, j) => .inr ([e], j) := by
  simp [pBase, pCond, h, h2, h3, h1]
  rfl
theorem pb_sum1 {i : Nat} {x : Nat × Nat} (h : isW tx L 8 i = false) (h2 : isW tx L 10 i = false) (h3 : isW tx L 12 i = false) (h4 : isW tx L 13 i = true) (h1 : pNum tx L 0 18 (nx tx L i) = .inl x) : pBase tx L i = .inl x := by
  simp [pBase, pCond, h, h2, h3, h4, h1]
theorem pb_sum2 {i v j : Nat} (h : isW tx L 8 i = false) (h2 : isW tx L 10 i = false) (h3 : isW tx L 12 i = false) (h4 : isW tx L 13 i = true) (h1 : pNum tx L 0 18 (nx tx L i) = .inr (v, j)) : pBase tx L i = .inr ([(3, 0, 5, v, 1, false)], j) := by
  simp [pBase, pCond, h, h2, h3, h4, h1]
theorem pb_day1 {i : Nat} {x : Nat × Nat} (h : isW tx L 8 i = false) (h2 : isW tx L 10 i = false) (h3 : isW tx L 12 i = false) (h4 : isW tx L 13 i = false) (h5 : isW tx L 14 i = true) (h1 : pNum tx L 1 9 (nx tx L i) = .inl x) : pBase tx L i = .inl x := by
  simp [pBase, pCond, h, h2, h3, h4, h5, h1]
theorem pb_day2 {i v j : Nat} (h : isW tx L 8 i = false) (h2 : isW tx L 10 i = false) (h3 : isW tx L 12 i = false) (h4 : isW tx L 13 i = false) (h5 : isW tx L 14 i = true) (h1 : pNum tx L 1 9 (nx tx L i) = .inr (v, j)) : pBase tx L i = .inr ([(4, 0, 5, v, 1, false)], j) := by
  simp [pBase, pCond, h, h2, h3, h4, h5, h1]
theorem pb_no {i : Nat} (h : isW tx L 8 i = false) (h2 : isW tx L 10 i = false) (h3 : isW tx L 12 i = false) (h4 : isW tx L 13 i = false) (h5 : isW tx L 14 i = false) : pBase tx L i = .inl (1, i) := by
  simp [pBase, pCond, h, h2, h3, h4, h5]
theorem ps_1 {k many i : Nat} {x : Nat × Nat} (h : pRange tx L i = .inl x) : pSpan tx L k many i = .inl x := by
  simp [pSpan, h]
theorem ps_2 {k many i f u j : Nat} {x : Nat × Nat} (h : pRange tx L i = .inr (f, u, j)) (h2 : pGive tx L 11 j = .inl x) : pSpan tx L k many i = .inl x := by
  simp [pSpan, h, h2]
theorem ps_3 {k many i f u j l : Nat} {g : Option Nat} (h : pRange tx L i = .inr (f, u, j)) (h2 : pGive tx L 11 j = .inr (g, l)) : pSpan tx L k many i = .inr ((k, f, u, many, giv g, g.isSome), l) := by
  simp [pSpan, h, h2]
theorem giv_tld {g : Option Nat} {x : Int32} {kd : Nat} (hk : kd ≤ 2) (h : match g with
    | none => x = -1
    | some v => v < 100 ∧ x = nI v) : (if g.isSome = true ∧ kd ≤ 2 then x = nI (giv g) ∧ giv g < 100 else x = -1 ∧ giv g = 1) := by
  cases g with
  | none =>
    rw [if_neg (fun z => by cases z.1)]
    exact ⟨h, rfl⟩
  | some v =>
    rw [if_pos ⟨rfl, hk⟩]
    exact ⟨h.2, h.1⟩
/-- ranges and gifts, the class's tail of 'all' and 'any', from a place on -/
theorem c_base (hd : 10 ≤ d) (hL : L ≤ 120) (hb : ∀ i, tx i < 256) (hB : RB tx L t c) (hA : Ar tx L k c) (hD : Dr c t (Ro ++ [(k0, o0, S.length)], S)) (dp : Int32) : Go d 18 none 40 [some (vR false 3 0), some (vI dp)] [] (c, m) (QC tx L t c m Ro k0 o0 S (pBase tx L (pos tx L k))) := by
  have hrf1 : RfS c (pf (pf (pf (pf c 7 (-1)) 8 0) 9 5) 10 (-1)) := RfS_tr (pf_rf c (by decide) _) (RfS_tr (pf_rf _ (by decide) _) (RfS_tr (pf_rf _ (by decide) _) (pf_rf _ (by decide) _)))
  have e7 : (pf (pf (pf (pf c 7 (-1)) 8 0) 9 5) 10 (-1)).1 3 0 7 = -1 := by rw [pf_n _ _ (by decide), pf_n _ _ (by decide), pf_n _ _ (by decide), pf_s]
  have e8 : (pf (pf (pf (pf c 7 (-1)) 8 0) 9 5) 10 (-1)).1 3 0 8 = nI 0 := by rw [pf_n _ _ (by decide), pf_n _ _ (by decide), pf_s]; rfl
  have e9 : (pf (pf (pf (pf c 7 (-1)) 8 0) 9 5) 10 (-1)).1 3 0 9 = nI 5 := by rw [pf_n _ _ (by decide), pf_s]; rfl
  have e10 : (pf (pf (pf (pf c 7 (-1)) 8 0) 9 5) 10 (-1)).1 3 0 10 = -1 := by rw [pf_s]
  have e13 : (pf (pf (pf (pf c 7 (-1)) 8 0) 9 5) 10 (-1)).1 3 0 13 = c.1 3 0 13 := by rw [pf_n _ _ (by decide), pf_n _ _ (by decide), pf_n _ _ (by decide), pf_n _ _ (by decide)]
  have hA1 : Ar tx L k (pf (pf (pf (pf c 7 (-1)) 8 0) 9 5) 10 (-1)) := pf_ar _ (by decide) (pf_ar _ (by decide) (pf_ar _ (by decide) (pf_ar _ (by decide) hA)))
  refine go_ev 100 [] (iF c_forget (by omega) ?_)
  generalize pf (pf (pf (pf c 7 (-1)) 8 0) 9 5) 10 (-1) = c1 at hrf1 e7 e8 e9 e10 e13 hA1 ⊢
  have hB1 := RB_rf hrf1 hB
  have bad : ∀ {c' : Sd} {f pl : Nat}, RfS c c' → c'.1 3 0 12 = nI f → c'.1 3 0 13 = nI pl → pBase tx L (pos tx L k) = .inl (f, pl) → QC tx L t c m Ro k0 o0 S (pBase tx L (pos tx L k)) (c', m) (some (vI 0)) := fun h1 h2 h3 h4 => qcl h4 (RdS_rf h1) (Dr_rf h1 hD).1 h2 h3
  have good : ∀ {c' c2 : Sd} {e : StpT} {j k' : Nat}, RfS c c' → Ar tx L k' c' → c'.1 3 0 13 = c.1 3 0 13 → DfS t c' c2 → Dr c2 t (Ro ++ [(k0, o0, (S ++ [e]).length)], S ++ [e]) → j = pos tx L k' → pBase tx L (pos tx L k) = .inr ([e], j) → QC tx L t c m Ro k0 o0 S (pBase tx L (pos tx L k)) (c2, m) (some (vI 1)) := fun h1 h2 h3 h4 h5 h6 h7 => qcr h7 (RdS_tr (RdS_rf h1) (RdS_df h4)) ⟨(h4.1 3 0 5 (fun z => absurd z.1 (by decide))).trans h2.1, h2.2⟩ h6 h5 ((h4.1 3 0 13 (fun z => absurd z.1 (by decide))).trans h3)
  cases w8 : isW tx L 8 (pos tx L k) with
  | true =>
    obtain ⟨hp1, hp2⟩ := pos_nx (by decide) w8
    refine iF (c_takesT hL hb hB1 hA1 (by decide) w8) (by omega) (bF (c := (1 : Int32) = 0) (by decide) ?_)
    have hrf2 := RfS_tr hrf1 (nw_rf c1 k)
    refine iC (c_readPerson hL hb (RB_rf hrf2 hB) (nw_ar hA1.2 hp2)) (by omega) ?_
    rintro _ _ ⟨c3, rfl, ⟨f, pl, hr, ⟨hF, h12, h13⟩, rfl⟩ | ⟨⟨v, j⟩, k3, hr, g1, g2, ⟨g3, g4, g5, g6⟩, rfl⟩⟩
    · rw [hp1] at hr
      exact bT (c := (0 : Int32) = 0) rfl (And.intro rfl (bad (RfS_tr hrf2 hF) h12 h13 (pb_who1 w8 hr)))
    · rw [hp1] at hr
      have g3 : j = pos tx L k3 := g3
      have hrf3 := RfS_tr hrf2 g1
      have fx : ∀ f, f ≠ 5 → f ≠ 6 → f ≠ 8 → c3.1 3 0 f = c1.1 3 0 f := fun f a b c => (g6 f a b c).trans (nw_o c1 k a)
      refine bF (c := (1 : Int32) = 0) (by decide) ?_
      refine iC (c_readGive (q := 9) hL hb (RB_rf hrf3 hB) g2 (by decide)) (by omega) ?_
      rintro _ _ ⟨c4, rfl, ⟨f, pl, hr2, ⟨hF, h12, h13⟩, rfl⟩ | ⟨⟨g, l⟩, k4, hr2, i1, i2, ⟨i3, i4, i5⟩, rfl⟩⟩
      · rw [← g3] at hr2
        exact bT (c := (0 : Int32) = 0) rfl (And.intro rfl (bad (RfS_tr hrf3 hF) h12 h13 (pb_who2 w8 hr hr2)))
      · rw [← g3] at hr2
        have hrf4 := RfS_tr hrf3 i1
        have q8 : c4.1 3 0 8 = nI v := (i5 8 (by decide) (by decide) (by decide)).trans g5
        have q9 : c4.1 3 0 9 = nI 5 := (i5 9 (by decide) (by decide) (by decide)).trans ((fx 9 (by decide) (by decide) (by decide)).trans e9)
        have q7 : c4.1 3 0 7 = -1 := (i5 7 (by decide) (by decide) (by decide)).trans ((fx 7 (by decide) (by decide) (by decide)).trans e7)
        have q13 : c4.1 3 0 13 = c.1 3 0 13 := (i5 13 (by decide) (by decide) (by decide)).trans ((fx 13 (by decide) (by decide) (by decide)).trans e13)
        rw [(fx 10 (by decide) (by decide) (by decide)).trans e10] at i4
        refine bF (c := (1 : Int32) = 0) (by decide) ?_
        refine iC (c_adds (e := (0, v, 5, 1, giv g, g.isSome)) (RB_rf hrf4 hB) (Dr_rf hrf4 hD) q8 q9 ⟨(if_neg (show ¬ (2 ≤ 0 ∧ 0 ≤ 4) by decide)).mpr ⟨q7, rfl⟩, giv_tld (kd := 0) (by decide) i4⟩) (by omega) ?_
        rintro _ _ ⟨c5, rfl, j1, j2, rfl⟩
        exact bF (c := (1 : Int32) = 0) (by decide) (And.intro rfl (good hrf4 i2 q13 j1 j2 i3 (pb_who3 w8 hr hr2)))
  | false =>
    refine iF (c_takesF hL hb hB1 hA1 (by decide) w8) (by omega) (bT (c := (0 : Int32) = 0) rfl ?_)
    cases w10 : isW tx L 10 (pos tx L k) with
    | true =>
      obtain ⟨hp1, hp2⟩ := pos_nx (by decide) w10
      refine iF (c_takesT hL hb hB1 hA1 (by decide) w10) (by omega) (bF (c := (1 : Int32) = 0) (by decide) ?_)
      have hrf2 := RfS_tr hrf1 (nw_rf c1 k)
      refine iC (c_readRange hL hb (RB_rf hrf2 hB) (nw_ar hA1.2 hp2) ((nw_o c1 k (by decide)).trans e8) ((nw_o c1 k (by decide)).trans e9)) (by omega) ?_
      rintro _ _ ⟨c3, rfl, ⟨f, pl, hr, ⟨hF, h12, h13⟩, rfl⟩ | ⟨⟨v, u, j⟩, k3, hr, g1, g2, ⟨g3, ⟨g4, g5⟩, g6⟩, rfl⟩⟩
      · rw [hp1] at hr
        exact bT (c := (0 : Int32) = 0) rfl (And.intro rfl (bad (RfS_tr hrf2 hF) h12 h13 (by rw [pb_all w8 w10, ps_1 hr])))
      · rw [hp1] at hr
        have g3 : j = pos tx L k3 := g3
        have hrf3 := RfS_tr hrf2 g1
        have fx : ∀ f, f ≠ 5 → f ≠ 6 → f ≠ 8 → f ≠ 9 → c3.1 3 0 f = c1.1 3 0 f := fun f a b c d => (g6 f a b c d).trans (nw_o c1 k a)
        refine bF (c := (1 : Int32) = 0) (by decide) ?_
        refine iC (c_readGive (q := 11) hL hb (RB_rf hrf3 hB) g2 (by decide)) (by omega) ?_
        rintro _ _ ⟨c4, rfl, ⟨f, pl, hr2, ⟨hF, h12, h13⟩, rfl⟩ | ⟨⟨g, l⟩, k4, hr2, i1, i2, ⟨i3, i4, i5⟩, rfl⟩⟩
        · rw [← g3] at hr2
          exact bT (c := (0 : Int32) = 0) rfl (And.intro rfl (bad (RfS_tr hrf3 hF) h12 h13 (by rw [pb_all w8 w10, ps_2 hr hr2])))
        · rw [← g3] at hr2
          have hrf4 := RfS_tr hrf3 i1
          have q8 : c4.1 3 0 8 = nI v := (i5 8 (by decide) (by decide) (by decide)).trans g4
          have q9 : c4.1 3 0 9 = nI u := (i5 9 (by decide) (by decide) (by decide)).trans g5
          have q7 : c4.1 3 0 7 = -1 := (i5 7 (by decide) (by decide) (by decide)).trans ((fx 7 (by decide) (by decide) (by decide) (by decide)).trans e7)
          have q13 : c4.1 3 0 13 = c.1 3 0 13 := (i5 13 (by decide) (by decide) (by decide)).trans ((fx 13 (by decide) (by decide) (by decide) (by decide)).trans e13)
          rw [(fx 10 (by decide) (by decide) (by decide) (by decide)).trans e10] at i4
          refine bF (c := (1 : Int32) = 0) (by decide) ?_
          refine iC (c_adds (e := (1, v, u, 1, giv g, g.isSome)) (RB_rf hrf4 hB) (Dr_rf hrf4 hD) q8 q9 ⟨(if_neg (show ¬ (2 ≤ 1 ∧ 1 ≤ 4) by decide)).mpr ⟨q7, rfl⟩, giv_tld (kd := 1) (by decide) i4⟩) (by omega) ?_
          rintro _ _ ⟨c5, rfl, j1, j2, rfl⟩
          exact bF (c := (1 : Int32) = 0) (by decide) (And.intro rfl (good hrf4 i2 q13 j1 j2 i3 (by rw [pb_all w8 w10, ps_3 hr hr2])))
    | false =>
      refine iF (c_takesF hL hb hB1 hA1 (by decide) w10) (by omega) (bT (c := (0 : Int32) = 0) rfl ?_)
      cases w12 : isW tx L 12 (pos tx L k) with
      | true =>
        obtain ⟨hp1, hp2⟩ := pos_nx (by decide) w12
        refine iF (c_takesT hL hb hB1 hA1 (by decide) w12) (by omega) (bF (c := (1 : Int32) = 0) (by decide) ?_)
        have hrf2 := RfS_tr hrf1 (nw_rf c1 k)
        refine iC (c_readMany (lo := 0) (hi := 6) hL hb (RB_rf hrf2 hB) (nw_ar hA1.2 hp2) (by decide) (by decide)) (by omega) ?_
        rintro _ _ ⟨c6, rfl, ⟨f, pl, hr0, ⟨hF, h12, h13⟩, rfl⟩ | ⟨⟨mv, j0⟩, k6, hr0, a1, a2, ⟨a3, a4, a5, a6⟩, rfl⟩⟩
        · rw [hp1] at hr0
          exact bT (c := (0 : Int32) = 0) rfl (And.intro rfl (bad (RfS_tr hrf2 hF) h12 h13 (pb_any1 w8 w10 w12 hr0)))
        · rw [hp1] at hr0
          have a3 : j0 = pos tx L k6 := a3
          have hrf6 := RfS_tr hrf2 a1
          have fy : ∀ f, f ≠ 5 → f ≠ 6 → f ≠ 7 → c6.1 3 0 f = c1.1 3 0 f := fun f a b c => (a6 f a b c).trans (nw_o c1 k a)
          refine bF (c := (1 : Int32) = 0) (by decide) ?_
          refine iC (c_readRange hL hb (RB_rf hrf6 hB) a2 ((fy 8 (by decide) (by decide) (by decide)).trans e8) ((fy 9 (by decide) (by decide) (by decide)).trans e9)) (by omega) ?_
          rintro _ _ ⟨c3, rfl, ⟨f, pl, hr, ⟨hF, h12, h13⟩, rfl⟩ | ⟨⟨v, u, j⟩, k3, hr, g1, g2, ⟨g3, ⟨g4, g5⟩, g6⟩, rfl⟩⟩
          · rw [← a3] at hr
            exact bT (c := (0 : Int32) = 0) rfl (And.intro rfl (bad (RfS_tr hrf6 hF) h12 h13 (by rw [pb_any2 w8 w10 w12 hr0, ps_1 hr])))
          · rw [← a3] at hr
            have g3 : j = pos tx L k3 := g3
            have hrf3 := RfS_tr hrf6 g1
            refine bF (c := (1 : Int32) = 0) (by decide) ?_
            refine iC (c_readGive (q := 11) hL hb (RB_rf hrf3 hB) g2 (by decide)) (by omega) ?_
            rintro _ _ ⟨c4, rfl, ⟨f, pl, hr2, ⟨hF, h12, h13⟩, rfl⟩ | ⟨⟨g, l⟩, k4, hr2, i1, i2, ⟨i3, i4, i5⟩, rfl⟩⟩
            · rw [← g3] at hr2
              exact bT (c := (0 : Int32) = 0) rfl (And.intro rfl (bad (RfS_tr hrf3 hF) h12 h13 (by rw [pb_any2 w8 w10 w12 hr0, ps_2 hr hr2])))
            · rw [← g3] at hr2
              have hrf4 := RfS_tr hrf3 i1
              have q8 : c4.1 3 0 8 = nI v := (i5 8 (by decide) (by decide) (by decide)).trans g4
              have q9 : c4.1 3 0 9 = nI u := (i5 9 (by decide) (by decide) (by decide)).trans g5
              have q7 : c4.1 3 0 7 = nI mv := (i5 7 (by decide) (by decide) (by decide)).trans ((g6 7 (by decide) (by decide) (by decide) (by decide)).trans a5)
              have q13 : c4.1 3 0 13 = c.1 3 0 13 := (i5 13 (by decide) (by decide) (by decide)).trans ((g6 13 (by decide) (by decide) (by decide) (by decide)).trans ((fy 13 (by decide) (by decide) (by decide)).trans e13))
              rw [(g6 10 (by decide) (by decide) (by decide) (by decide)).trans ((fy 10 (by decide) (by decide) (by decide)).trans e10)] at i4
              refine bF (c := (1 : Int32) = 0) (by decide) ?_
              refine iC (c_adds (e := (2, v, u, mv, giv g, g.isSome)) (RB_rf hrf4 hB) (Dr_rf hrf4 hD) q8 q9 ⟨(if_pos (show 2 ≤ 2 ∧ 2 ≤ 4 by decide)).mpr ⟨q7, a4⟩, giv_tld (kd := 2) (by decide) i4⟩) (by omega) ?_
              rintro _ _ ⟨c5, rfl, j1, j2, rfl⟩
              exact bF (c := (1 : Int32) = 0) (by decide) (And.intro rfl (good hrf4 i2 q13 j1 j2 i3 (by rw [pb_any2 w8 w10 w12 hr0, ps_3 hr hr2])))
      | false =>
        refine iF (c_takesF hL hb hB1 hA1 (by decide) w12) (by omega) (bT (c := (0 : Int32) = 0) rfl ?_)
        cases w13 : isW tx L 13 (pos tx L k) with
        | true =>
          obtain ⟨hp1, hp2⟩ := pos_nx (by decide) w13
          refine iF (c_takesT hL hb hB1 hA1 (by decide) w13) (by omega) (bF (c := (1 : Int32) = 0) (by decide) ?_)
          have hrf2 := RfS_tr hrf1 (nw_rf c1 k)
          refine iC (c_readMany (lo := 0) (hi := 18) hL hb (RB_rf hrf2 hB) (nw_ar hA1.2 hp2) (by decide) (by decide)) (by omega) ?_
          rintro _ _ ⟨c6, rfl, ⟨f, pl, hr0, ⟨hF, h12, h13⟩, rfl⟩ | ⟨⟨mv, j0⟩, k6, hr0, a1, a2, ⟨a3, a4, a5, a6⟩, rfl⟩⟩
          · rw [hp1] at hr0
            exact bT (c := (0 : Int32) = 0) rfl (And.intro rfl (bad (RfS_tr hrf2 hF) h12 h13 (pb_sum1 w8 w10 w12 w13 hr0)))
          · rw [hp1] at hr0
            have hrf6 := RfS_tr hrf2 a1
            have fy : ∀ f, f ≠ 5 → f ≠ 6 → f ≠ 7 → c6.1 3 0 f = c1.1 3 0 f := fun f a b c => (a6 f a b c).trans (nw_o c1 k a)
            refine bF (c := (1 : Int32) = 0) (by decide) ?_
            refine iC (c_adds (e := (3, 0, 5, mv, 1, false)) (RB_rf hrf6 hB) (Dr_rf hrf6 hD) ((fy 8 (by decide) (by decide) (by decide)).trans e8) ((fy 9 (by decide) (by decide) (by decide)).trans e9) ⟨(if_pos (show 2 ≤ 3 ∧ 3 ≤ 4 by decide)).mpr ⟨a5, a4⟩, (if_neg (show ¬ (false = true ∧ 3 ≤ 2) by decide)).mpr ⟨(fy 10 (by decide) (by decide) (by decide)).trans e10, rfl⟩⟩) (by omega) ?_
            rintro _ _ ⟨c5, rfl, j1, j2, rfl⟩
            exact bF (c := (1 : Int32) = 0) (by decide) (And.intro rfl (good hrf6 a2 ((fy 13 (by decide) (by decide) (by decide)).trans e13) j1 j2 a3 (pb_sum2 w8 w10 w12 w13 hr0)))
        | false =>
          refine iF (c_takesF hL hb hB1 hA1 (by decide) w13) (by omega) (bT (c := (0 : Int32) = 0) rfl ?_)
          cases w14 : isW tx L 14 (pos tx L k) with
          | true =>
            obtain ⟨hp1, hp2⟩ := pos_nx (by decide) w14
            refine iF (c_takesT hL hb hB1 hA1 (by decide) w14) (by omega) (bF (c := (1 : Int32) = 0) (by decide) ?_)
            have hrf2 := RfS_tr hrf1 (nw_rf c1 k)
            refine iC (c_readMany (lo := 1) (hi := 9) hL hb (RB_rf hrf2 hB) (nw_ar hA1.2 hp2) (by decide) (by decide)) (by omega) ?_
            rintro _ _ ⟨c6, rfl, ⟨f, pl, hr0, ⟨hF, h12, h13⟩, rfl⟩ | ⟨⟨mv, j0⟩, k6, hr0, a1, a2, ⟨a3, a4, a5, a6⟩, rfl⟩⟩
            · rw [hp1] at hr0
              exact bT (c := (0 : Int32) = 0) rfl (And.intro rfl (bad (RfS_tr hrf2 hF) h12 h13 (pb_day1 w8 w10 w12 w13 w14 hr0)))
            · rw [hp1] at hr0
              have hrf6 := RfS_tr hrf2 a1
              have fy : ∀ f, f ≠ 5 → f ≠ 6 → f ≠ 7 → c6.1 3 0 f = c1.1 3 0 f := fun f a b c => (a6 f a b c).trans (nw_o c1 k a)
              refine bF (c := (1 : Int32) = 0) (by decide) ?_
              refine iC (c_adds (e := (4, 0, 5, mv, 1, false)) (RB_rf hrf6 hB) (Dr_rf hrf6 hD) ((fy 8 (by decide) (by decide) (by decide)).trans e8) ((fy 9 (by decide) (by decide) (by decide)).trans e9) ⟨(if_pos (show 2 ≤ 4 ∧ 4 ≤ 4 by decide)).mpr ⟨a5, a4⟩, (if_neg (show ¬ (false = true ∧ 4 ≤ 2) by decide)).mpr ⟨(fy 10 (by decide) (by decide) (by decide)).trans e10, rfl⟩⟩) (by omega) ?_
              rintro _ _ ⟨c5, rfl, j1, j2, rfl⟩
              exact bF (c := (1 : Int32) = 0) (by decide) (And.intro rfl (good hrf6 a2 ((fy 13 (by decide) (by decide) (by decide)).trans e13) j1 j2 a3 (pb_day2 w8 w10 w12 w13 w14 hr0)))
          | false =>
            refine iF (c_takesF hL hb hB1 hA1 (by decide) w14) (by omega) (bT (c := (0 : Int32) = 0) rfl ?_)
            refine iF (c_fails hL hB1 hA1 1) (by omega) (And.intro rfl (bad (RfS_tr hrf1 (fl_rf _ _ _)) (fl_at _ _ _).1 (fl_at _ _ _).2 (pb_no w8 w10 w12 w13 w14)))
end ONE
end
section
/-! the pure reader goes on -/
def rb {α β : Type} (r : Rs α) (f : α → Rs β) : Rs β := match r with
  | .inl x => .inl x
  | .inr a => f a
theorem okE_mk {k f u m g : Nat} {b : Bool} (h1 : k < 8) (h2 : f < 6) (h3 : u < 6) (h4 : m < 100) (h5 : g < 100) : okE (k, f, u, m, g, b) := ⟨h1, h2, h3, h4, h5⟩
section PRO
variable {tx : Nat → Nat} {L : Nat}
theorem nx_gt {q i : Nat} (hq : q < 17) (h : isW tx L q i = true) : i + 2 ≤ nx tx L i ∧ i < L := by
  obtain ⟨h1, -, h3, -⟩ := isW_lt hq h
  have h4 := (wB_len q hq).2.1
  have h5 := sk_ge (tx := tx) (L := L) (wd tx L i)
  unfold nx
  omega
theorem pNum_gt {lo hi i v j : Nat} (h : pNum tx L lo hi i = .inr (v, j)) : i < j ∧ lo ≤ v ∧ v ≤ hi := by
  unfold pNum at h
  split at h
  · rename_i h1
    split at h
    · rename_i h2
      cases h
      have h3 := run_pos (tx := tx) (P := dgB) h1.1 h1.2
      have h4 := sk_ge (tx := tx) (L := L) (dg tx L i)
      have e : dg tx L i = run tx L dgB i := rfl
      omega
    · cases h
  · cases h
theorem pGive_ge {q i j : Nat} {g : Option Nat} (hq : q < 17) (h : pGive tx L q i = .inr (g, j)) : i ≤ j ∧ giv g ≤ 3 := by
  unfold pGive at h
  split at h
  · rename_i h1
    have h2 := nx_gt hq h1
    cases h3 : pNum tx L 0 3 (nx tx L i) with
    | inl x =>
      rw [h3] at h
      cases h
    | inr a =>
      obtain ⟨v, l⟩ := a
      rw [h3] at h
      cases h
      have := pNum_gt h3
      exact ⟨by omega, this.2.2⟩
  · cases h
    exact ⟨Nat.le_refl _, by decide⟩
theorem pRange_ge {i f u j : Nat} (h : pRange tx L i = .inr (f, u, j)) : i ≤ j ∧ f ≤ 5 ∧ u ≤ 5 := by
  unfold pRange at h
  split at h
  · rename_i h1
    have h2 := nx_gt (by decide) h1
    cases h3 : pNum tx L 0 5 (nx tx L i) with
    | inl x =>
      rw [h3] at h
      cases h
    | inr a =>
      obtain ⟨v, l⟩ := a
      rw [h3] at h
      have g1 := pNum_gt h3
      have h : (if isW tx L 16 l = true then (match pNum tx L 0 5 (nx tx L l) with
        | .inl x => (.inl x : Rs (Nat × Nat × Nat))
        | .inr (t, l2) => if t < v then .inl (3, nx tx L l) else .inr (v, t, l2)) else .inl (1, l)) = .inr (f, u, j) := h
      split at h
      · rename_i h4
        have h5 := nx_gt (by decide) h4
        cases h6 : pNum tx L 0 5 (nx tx L l) with
        | inl x =>
          rw [h6] at h
          cases h
        | inr b =>
          obtain ⟨v2, l2⟩ := b
          rw [h6] at h
          have g2 := pNum_gt h6
          have h : (if v2 < v then (.inl (3, nx tx L l) : Rs (Nat × Nat × Nat)) else .inr (v, v2, l2)) = .inr (f, u, j) := h
          split at h
          · cases h
          · cases h
            omega
      · cases h
  · cases h
    omega
theorem pSpan_ge {k many i j : Nat} {e : StpT} (h : pSpan tx L k many i = .inr (e, j)) : i ≤ j ∧ ∃ f u g, e = (k, f, u, many, giv g, g.isSome) ∧ f ≤ 5 ∧ u ≤ 5 ∧ giv g ≤ 3 := by
  unfold pSpan at h
  cases h1 : pRange tx L i with
  | inl x =>
    rw [h1] at h
    cases h
  | inr a =>
    obtain ⟨f, u, l⟩ := a
    rw [h1] at h
    have g1 := pRange_ge h1
    cases h2 : pGive tx L 11 l with
    | inl x =>
      have h : (match pGive tx L 11 l with
        | .inl x => (.inl x : Rs (StpT × Nat))
        | .inr (g, l) => .inr ((k, f, u, many, giv g, g.isSome), l)) = .inr (e, j) := h
      rw [h2] at h
      cases h
    | inr b =>
      obtain ⟨g, l2⟩ := b
      have h : (match pGive tx L 11 l with
        | .inl x => (.inl x : Rs (StpT × Nat))
        | .inr (g, l) => .inr ((k, f, u, many, giv g, g.isSome), l)) = .inr (e, j) := h
      rw [h2] at h
      cases h
      have g2 := pGive_ge (by decide) h2
      exact ⟨by omega, f, u, g, rfl, g1.2.1, g1.2.2, g2.2⟩
theorem pBase_gt {i j : Nat} {A : List StpT} (h : pBase tx L i = .inr (A, j)) : i + 3 ≤ j ∧ i < L ∧ ∃ e, A = [e] ∧ okE e ∧ e.1 < 5 := by
  have w3 : ∀ q, q < 17 → (wB q).length = 3 → isW tx L q i = true → i + 3 ≤ nx tx L i ∧ i < L := fun q hq hl hw => by
    obtain ⟨h1, -, h3, -⟩ := isW_lt hq hw
    have h5 := sk_ge (tx := tx) (L := L) (wd tx L i)
    unfold nx
    omega
  cases w8 : isW tx L 8 i with
  | true =>
    have hg := w3 8 (by decide) rfl w8
    cases h1 : pNum tx L 0 5 (nx tx L i) with
    | inl x =>
      rw [pb_who1 w8 h1] at h
      cases h
    | inr a =>
      obtain ⟨f, l⟩ := a
      have g1 := pNum_gt h1
      cases h2 : pGive tx L 9 l with
      | inl x =>
        rw [pb_who2 w8 h1 h2] at h
        cases h
      | inr b =>
        obtain ⟨g, l2⟩ := b
        rw [pb_who3 w8 h1 h2] at h
        cases h
        have g2 := pGive_ge (by decide) h2
        exact ⟨by omega, hg.2, _, rfl, okE_mk (by omega) (by omega) (by omega) (by omega) (by omega), by show 0 < 5; decide⟩
  | false =>
    cases w10 : isW tx L 10 i with
    | true =>
      have hg := w3 10 (by decide) rfl w10
      rw [pb_all w8 w10] at h
      cases h1 : pSpan tx L 1 1 (nx tx L i) with
      | inl x =>
        rw [h1] at h
        cases h
      | inr a =>
        obtain ⟨e, l⟩ := a
        rw [h1] at h
        cases h
        obtain ⟨g1, f, u, g, rfl, g2, g3, g4⟩ := pSpan_ge h1
        exact ⟨by omega, hg.2, _, rfl, okE_mk (by omega) (by omega) (by omega) (by omega) (by omega), by show 1 < 5; decide⟩
    | false =>
      cases w12 : isW tx L 12 i with
      | true =>
        have hg := w3 12 (by decide) rfl w12
        cases h0 : pNum tx L 0 6 (nx tx L i) with
        | inl x =>
          rw [pb_any1 w8 w10 w12 h0] at h
          cases h
        | inr b =>
          obtain ⟨v, l0⟩ := b
          have g0 := pNum_gt h0
          rw [pb_any2 w8 w10 w12 h0] at h
          cases h1 : pSpan tx L 2 v l0 with
          | inl x =>
            rw [h1] at h
            cases h
          | inr a =>
            obtain ⟨e, l⟩ := a
            rw [h1] at h
            cases h
            obtain ⟨g1, f, u, g, rfl, g2, g3, g4⟩ := pSpan_ge h1
            exact ⟨by omega, hg.2, _, rfl, okE_mk (by omega) (by omega) (by omega) (by omega) (by omega), by show 2 < 5; decide⟩
      | false =>
        cases w13 : isW tx L 13 i with
        | true =>
          have hg := w3 13 (by decide) rfl w13
          cases h0 : pNum tx L 0 18 (nx tx L i) with
          | inl x =>
            rw [pb_sum1 w8 w10 w12 w13 h0] at h
            cases h
          | inr b =>
            obtain ⟨v, l0⟩ := b
            have g0 := pNum_gt h0
            rw [pb_sum2 w8 w10 w12 w13 h0] at h
            cases h
            exact ⟨by omega, hg.2, _, rfl, okE_mk (by omega) (by omega) (by omega) (by omega) (by omega), by show 3 < 5; decide⟩
        | false =>
          cases w14 : isW tx L 14 i with
          | true =>
            have hg := w3 14 (by decide) rfl w14
            cases h0 : pNum tx L 1 9 (nx tx L i) with
            | inl x =>
              rw [pb_day1 w8 w10 w12 w13 w14 h0] at h
              cases h
            | inr b =>
              obtain ⟨v, l0⟩ := b
              have g0 := pNum_gt h0
              rw [pb_day2 w8 w10 w12 w13 w14 h0] at h
              cases h
              exact ⟨by omega, hg.2, _, rfl, okE_mk (by omega) (by omega) (by omega) (by omega) (by omega), by show 4 < 5; decide⟩
          | false =>
            rw [pb_no w8 w10 w12 w13 w14] at h
            cases h
variable {one : Nat → Rs (List StpT × Nat)}
theorem pAnd_s {f i : Nat} {S : List StpT} (h : isW tx L 5 i = true) : pAnd tx L one (f + 1) S i = rb (one (nx tx L i)) (fun p => pAnd tx L one f (S ++ p.1 ++ [opS 6]) p.2) := by
  conv => lhs; unfold pAnd
  rw [if_pos h]
  cases one (nx tx L i) <;> rfl
theorem pAnd_n {f i : Nat} {S : List StpT} (h : isW tx L 5 i = false) : pAnd tx L one f S i = .inr (S, i) := by
  cases f with
  | zero => rfl
  | succ f =>
    unfold pAnd
    rw [if_neg (by rw [h]; exact Bool.false_ne_true)]
theorem pOrs_s {f i : Nat} {S : List StpT} (h : isW tx L 6 i = true) : pOrs tx L one (f + 1) S i = rb (pTrm tx L one (nx tx L i)) (fun p => pOrs tx L one f (S ++ p.1 ++ [opS 7]) p.2) := by
  conv => lhs; unfold pOrs
  rw [if_pos h]
  cases pTrm tx L one (nx tx L i) <;> rfl
theorem pOrs_n {f i : Nat} {S : List StpT} (h : isW tx L 6 i = false) : pOrs tx L one f S i = .inr (S, i) := by
  cases f with
  | zero => rfl
  | succ f =>
    unfold pOrs
    rw [if_neg (by rw [h]; exact Bool.false_ne_true)]
theorem pTrm_rb (i : Nat) : pTrm tx L one i = rb (one i) (fun p => pAnd tx L one (L + 1) p.1 p.2) := by
  unfold pTrm
  cases one i <;> rfl
theorem pSome_rb (i : Nat) : pSome tx L one i = rb (pTrm tx L one i) (fun p => pOrs tx L one (L + 1) p.1 p.2) := by
  unfold pSome
  cases pTrm tx L one i <;> rfl
theorem pAnd_ge (hp : ∀ i A j, one i = .inr (A, j) → i < j) : ∀ (f : Nat) (S : List StpT) (i : Nat) (A : List StpT) (j : Nat), pAnd tx L one f S i = .inr (A, j) → i ≤ j
  | 0, S, i, A, j, h => by
    cases h
    exact Nat.le_refl _
  | f + 1, S, i, A, j, h => by
    cases h5 : isW tx L 5 i with
    | false =>
      rw [pAnd_n h5] at h
      cases h
      exact Nat.le_refl _
    | true =>
      have h6 := nx_gt (by decide) h5
      rw [pAnd_s h5] at h
      cases h7 : one (nx tx L i) with
      | inl x =>
        rw [h7] at h
        cases h
      | inr a =>
        rw [h7] at h
        have h8 := hp _ _ _ h7
        have h9 := pAnd_ge hp f _ _ _ _ h
        omega
theorem pTrm_gt (hp : ∀ i A j, one i = .inr (A, j) → i < j) {i j : Nat} {A : List StpT} (h : pTrm tx L one i = .inr (A, j)) : i < j := by
  rw [pTrm_rb] at h
  cases h7 : one i with
  | inl x =>
    rw [h7] at h
    cases h
  | inr a =>
    rw [h7] at h
    have h8 := hp _ _ _ h7
    have h9 := pAnd_ge hp _ _ _ _ _ h
    omega
theorem pOrs_ge (hp : ∀ i A j, one i = .inr (A, j) → i < j) : ∀ (f : Nat) (S : List StpT) (i : Nat) (A : List StpT) (j : Nat), pOrs tx L one f S i = .inr (A, j) → i ≤ j
  | 0, S, i, A, j, h => by
    cases h
    exact Nat.le_refl _
  | f + 1, S, i, A, j, h => by
    cases h5 : isW tx L 6 i with
    | false =>
      rw [pOrs_n h5] at h
      cases h
      exact Nat.le_refl _
    | true =>
      have h6 := nx_gt (by decide) h5
      rw [pOrs_s h5] at h
      cases h7 : pTrm tx L one (nx tx L i) with
      | inl x =>
        rw [h7] at h
        cases h
      | inr a =>
        rw [h7] at h
        have h8 := pTrm_gt hp h7
        have h9 := pOrs_ge hp f _ _ _ _ h
        omega
theorem pSome_gt (hp : ∀ i A j, one i = .inr (A, j) → i < j) {i j : Nat} {A : List StpT} (h : pSome tx L one i = .inr (A, j)) : i < j := by
  rw [pSome_rb] at h
  cases h7 : pTrm tx L one i with
  | inl x =>
    rw [h7] at h
    cases h
  | inr a =>
    rw [h7] at h
    have h8 := pTrm_gt hp h7
    have h9 := pOrs_ge hp _ _ _ _ _ h
    omega
theorem pOne_n {e i : Nat} (h : isW tx L 7 i = true) : pOne tx L (e + 1) i = rb (pOne tx L e (nx tx L i)) (fun p => .inr (p.1 ++ [opS 5], p.2)) := by
  conv => lhs; unfold pOne
  rw [if_pos h]
  cases pOne tx L e (nx tx L i) <;> rfl
theorem pOne_p {e i : Nat} (h : isW tx L 7 i = false) (h2 : isS tx L 40 i = true) : pOne tx L (e + 1) i = rb (pSome tx L (pOne tx L e) (sk tx L (i + 1))) (fun p => if isS tx L 41 p.2 = true then .inr (p.1, sk tx L (p.2 + 1)) else .inl (1, p.2)) := by
  conv => lhs; unfold pOne
  rw [if_neg (by rw [h]; exact Bool.false_ne_true), if_pos h2]
  cases pSome tx L (pOne tx L e) (sk tx L (i + 1)) <;> rfl
theorem pOne_b {e i : Nat} (h : isW tx L 7 i = false) (h2 : isS tx L 40 i = false) : pOne tx L e i = pBase tx L i := by
  cases e with
  | zero =>
    unfold pOne
    rw [if_neg (fun z => by rw [h, h2] at z; rcases z with z | z <;> cases z)]
  | succ e =>
    unfold pOne
    rw [if_neg (by rw [h]; exact Bool.false_ne_true), if_neg (by rw [h2]; exact Bool.false_ne_true)]
theorem pOne_0 {i : Nat} (h : isW tx L 7 i = true ∨ isS tx L 40 i = true) : pOne tx L 0 i = .inl (4, i) := by
  unfold pOne
  rw [if_pos h]
theorem pOne_gt : ∀ (e i : Nat) (A : List StpT) (j : Nat), pOne tx L e i = .inr (A, j) → i < j := by
  intro e
  induction e with
  | zero =>
    intro i A j h
    by_cases h1 : isW tx L 7 i = true ∨ isS tx L 40 i = true
    · rw [pOne_0 h1] at h
      cases h
    · rw [pOne_b (Bool.eq_false_iff.mpr (fun z => h1 (Or.inl z))) (Bool.eq_false_iff.mpr (fun z => h1 (Or.inr z)))] at h
      have := pBase_gt h
      omega
  | succ e ih =>
    intro i A j h
    cases h7 : isW tx L 7 i with
    | true =>
      rw [pOne_n h7] at h
      have h6 := nx_gt (by decide) h7
      cases h8 : pOne tx L e (nx tx L i) with
      | inl x =>
        rw [h8] at h
        cases h
      | inr a =>
        rw [h8] at h
        cases h
        have := ih _ _ _ h8
        omega
    | false =>
      cases h2 : isS tx L 40 i with
      | true =>
        rw [pOne_p h7 h2] at h
        cases h8 : pSome tx L (pOne tx L e) (sk tx L (i + 1)) with
        | inl x =>
          rw [h8] at h
          cases h
        | inr a =>
          rw [h8] at h
          have h : (if isS tx L 41 a.2 = true then (.inr (a.1, sk tx L (a.2 + 1)) : Rs (List StpT × Nat)) else .inl (1, a.2)) = .inr (A, j) := h
          have h9 := pSome_gt ih h8
          have h10 := sk_ge (tx := tx) (L := L) (i + 1)
          have h11 := sk_ge (tx := tx) (L := L) (a.2 + 1)
          split at h
          · cases h
            omega
          · cases h
      | false =>
        rw [pOne_b h7 h2] at h
        have := pBase_gt h
        omega
end PRO
end
section
/-! the class: what 'and' and 'or' join, level by level -/
theorem tld_op {k : Nat} (h : 5 ≤ k) : tld (opS k) (-1) (-1) := ⟨(if_neg (show ¬ (2 ≤ k ∧ k ≤ 4) by omega)).mpr ⟨rfl, rfl⟩, (if_neg (show ¬ (false = true ∧ k ≤ 2) by simp)).mpr ⟨rfl, rfl⟩⟩
section LEV
variable {tx : Nat → Nat} {L t k d : Nat} {c m : Sd} {Ro : List (Nat × Nat × Nat)} {k0 o0 : Nat} {S : List StpT}
def Sta (tx : Nat → Nat) (L t : Nat) (c : Sd) (Ro : List (Nat × Nat × Nat)) (k0 o0 : Nat) (S : List StpT) (c' : Sd) (k' : Nat) (X : List StpT) : Prop := RdS t c c' ∧ RB tx L t c' ∧ Ar tx L k' c' ∧ Dr c' t (Ro ++ [(k0, o0, (S ++ X).length)], S ++ X) ∧ c'.1 3 0 13 = c.1 3 0 13
theorem Sta_op {c' c2 : Sd} {X : List StpT} {k' op : Nat} (h : Sta tx L t c Ro k0 o0 S c' k' X) (h1 : DfS t c' c2) (h2 : Dr c2 t (Ro ++ [(k0, o0, ((S ++ X) ++ [opS op]).length)], (S ++ X) ++ [opS op])) : Sta tx L t c Ro k0 o0 S c2 k' (X ++ [opS op]) := by
  obtain ⟨a1, a2, a3, a4, a5⟩ := h
  rw [List.append_assoc] at h2
  exact ⟨RdS_tr a1 (RdS_df h1), RB_rd (RdS_df h1) a2, ⟨(h1.1 3 0 5 (fun z => absurd z.1 (by decide))).trans a3.1, a3.2⟩, h2, (h1.1 3 0 13 (fun z => absurd z.1 (by decide))).trans a5⟩
theorem Sta_nw {c' : Sd} {X : List StpT} {k' : Nat} (h : Sta tx L t c Ro k0 o0 S c' k' X) (hl : pos tx L k' < L) : Sta tx L t c Ro k0 o0 S (nw c' k') (k' + 1) X := by
  obtain ⟨a1, a2, a3, a4, a5⟩ := h
  exact ⟨RdS_tr a1 (RdS_rf (nw_rf c' k')), RB_rf (nw_rf c' k') a2, nw_ar a3.2 hl, Dr_rf (nw_rf c' k') a4, (nw_o c' k' (by decide)).trans a5⟩
theorem c_opS {c' : Sd} {X : List StpT} {k' op : Nat} (h : Sta tx L t c Ro k0 o0 S c' k' X) (ho : 5 ≤ op) : Ctr 1 38 [vR false 11 (c'.2.2 3 0), vI (nI (kcd op)), vI 0, vI 0, vI (-1), vI (-1)] (c', m) (QDf t c' m (Ro ++ [(k0, o0, ((S ++ X) ++ [opS op]).length)], (S ++ X) ++ [opS op])) := by
  rw [h.2.1.2.2]
  exact c_addStep (e := opS op) h.2.2.2.1 (tld_op ho)
theorem c_some {one : Nat → Rs (List StpT × Nat)} (hd : 9 ≤ d) (hL : L ≤ 120) (hb : ∀ i, tx i < 256) (hprog : ∀ i A j, one i = .inr (A, j) → i < j) (dp : Int32)
    (hOne : ∀ (c : Sd) (k : Nat) (S : List StpT), RB tx L t c → Ar tx L k c → Dr c t (Ro ++ [(k0, o0, S.length)], S) → Ctr d 18 [vR false 3 0, vI dp] (c, m) (QC tx L t c m Ro k0 o0 S (one (pos tx L k))))
    (hB : RB tx L t c) (hA : Ar tx L k c) (hD : Dr c t (Ro ++ [(k0, o0, S.length)], S)) : Ctr (d + 1) 17 [vR false 3 0, vI dp] (c, m) (QC tx L t c m Ro k0 o0 S (pSome tx L one (pos tx L k))) := by
  have kA : ∀ (cont : List StpT × Nat → Rs (List StpT × Nat)) (kx : Int32) (Y : List StpT) (p0 : Nat), (∀ (k' : Nat) (A : List StpT) (c' : Sd) (jx : Int32), Sta tx L t c Ro k0 o0 S c' k' (Y ++ A) → p0 ≤ pos tx L k' → pSome tx L one (pos tx L k) = cont (A, pos tx L k') → Go (d + 1) 17 none 71 [some (vR false 3 0), some (vI dp), some (vI 1), some (vI kx), some (vI jx)] [] (c', m) (QC tx L t c m Ro k0 o0 S (pSome tx L one (pos tx L k)))) → ∀ (fuel jj k' : Nat) (A : List StpT) (c' : Sd) (x : Int32), x = nI jj → jj ≤ pos tx L k' → L < fuel + pos tx L k' → p0 ≤ pos tx L k' → Sta tx L t c Ro k0 o0 S c' k' (Y ++ A) → pSome tx L one (pos tx L k) = rb (pAnd tx L one fuel A (pos tx L k')) cont → Go (d + 1) 17 none 27 [some (vR false 3 0), some (vI dp), some (vI 1), some (vI kx), some (vI x)] [] (c', m) (QC tx L t c m Ro k0 o0 S (pSome tx L one (pos tx L k))) := by
    intro cont kx Y p0 hK fuel
    induction fuel with
    | zero =>
      intro jj k' A c' x hx hjj hf hp0 hS hres
      have := pos_le (tx := tx) (L := L) k'
      omega
    | succ fuel ih =>
      intro jj k' A c' x hx hjj hf hp0 hS hres
      subst hx
      have hple := pos_le (tx := tx) (L := L) k'
      have h121 : ¬ (121 : Int32) ≤ nI jj := by rw [show (121 : Int32) = nI 121 from rfl, nIle (by decide) (by omega)]; omega
      cases h5 : isW tx L 5 (pos tx L k') with
      | false =>
        refine go_ev 100 [27, 71] (bF (c := (121 : Int32) ≤ nI jj) h121 (iF (c_takesF hL hb hS.2.1 hS.2.2.1 (by decide) h5) (by omega) (bT (c := (0 : Int32) = 0) rfl ?_)))
        exact hK k' A c' _ hS hp0 (by rw [hres, pAnd_n h5]; rfl)
      | true =>
        obtain ⟨hp1, hp2⟩ := pos_nx (by decide) h5
        have hstep := pos_step hp2
        rw [pAnd_s h5, ← hp1] at hres
        have hS1 := Sta_nw hS hp2
        refine go_ev 100 [27, 71] (bF (c := (121 : Int32) ≤ nI jj) h121 (iF (c_takesT hL hb hS.2.1 hS.2.2.1 (by decide) h5) (by omega) (bF (c := (1 : Int32) = 0) (by decide) ?_)))
        refine iC (hOne (nw c' k') (k' + 1) (S ++ (Y ++ A)) hS1.2.1 hS1.2.2.1 hS1.2.2.2.1) (by omega) ?_
        rintro _ _ ⟨c2, rfl, hRd, ⟨f, pl, hr, g1, g2, g3, rfl⟩ | ⟨A2, j2, k2, hr, g1, g2, g3, g4, rfl⟩⟩
        · refine bT (c := (0 : Int32) = 0) rfl (And.intro rfl (qcl ?_ (RdS_tr hS1.1 hRd) g1 g2 g3))
          rw [hres, hr]
          rfl
        · refine bF (c := (1 : Int32) = 0) (by decide) ?_
          have hgt := hprog _ _ _ hr
          subst g2
          rw [List.append_assoc] at g3
          have hS2 : Sta tx L t c Ro k0 o0 S c2 k2 ((Y ++ A) ++ A2) := ⟨RdS_tr hS1.1 hRd, RB_rd hRd hS1.2.1, g1, g3, g4.trans hS1.2.2.2.2⟩
          refine iC (c_opS (op := 6) hS2 (by decide)) (by omega) ?_
          rintro _ _ ⟨c3, rfl, i1, i2, rfl⟩
          have hS3 := Sta_op hS2 i1 i2
          rw [show (Y ++ A ++ A2) ++ [opS 6] = Y ++ (A ++ A2 ++ [opS 6]) by simp only [List.append_assoc]] at hS3
          refine ih (jj + 1) k2 (A ++ A2 ++ [opS 6]) c3 _ (nI_succ jj).symm (by omega) (by omega) (by omega) hS3 ?_
          rw [hres, hr]
          rfl
  have kO : ∀ (fuel kk k' : Nat) (Y : List StpT) (c' : Sd) (x : Int32) (v4 : Option PV), x = nI kk → kk ≤ pos tx L k' → L < fuel + pos tx L k' → Sta tx L t c Ro k0 o0 S c' k' Y → (kk = 0 → Y = []) → pSome tx L one (pos tx L k) = rb (pTrm tx L one (pos tx L k')) (fun p => pOrs tx L one fuel (if kk = 0 then p.1 else Y ++ p.1 ++ [opS 7]) p.2) → Go (d + 1) 17 none 4 [some (vR false 3 0), some (vI dp), some (vI 1), some (vI x), v4] [] (c', m) (QC tx L t c m Ro k0 o0 S (pSome tx L one (pos tx L k))) := by
    intro fuel
    induction fuel with
    | zero =>
      intro kk k' Y c' x v4 hx hkk hf hS hY hres
      have := pos_le (tx := tx) (L := L) k'
      omega
    | succ fuel ih =>
      intro kk k' Y c' x v4 hx hkk hf hS hY hres
      subst hx
      have hple := pos_le (tx := tx) (L := L) k'
      have h121 : ¬ (121 : Int32) ≤ nI kk := by rw [show (121 : Int32) = nI 121 from rfl, nIle (by decide) (by omega)]; omega
      /- behind an or-term -/
      have h87 : ∀ (c4 : Sd) (k4 : Nat) (Z : List StpT) (x4 : Int32), Sta tx L t c Ro k0 o0 S c4 k4 Z → pos tx L k' < pos tx L k4 → pSome tx L one (pos tx L k) = pOrs tx L one (fuel + 1) Z (pos tx L k4) → Go (d + 1) 17 none 87 [some (vR false 3 0), some (vI dp), some (vI 1), some (vI (nI kk)), some (vI x4)] [] (c4, m) (QC tx L t c m Ro k0 o0 S (pSome tx L one (pos tx L k))) := by
        intro c4 k4 Z x4 hS4 hlt hres4
        cases h6 : isW tx L 6 (pos tx L k4) with
        | false =>
          rw [pOrs_n h6] at hres4
          have hend : zok 1 ∧ QC tx L t c m Ro k0 o0 S (pSome tx L one (pos tx L k)) (c4, m) (some (vI 1)) := ⟨rfl, qcr hres4 hS4.1 hS4.2.2.1 rfl hS4.2.2.2.1 hS4.2.2.2.2⟩
          refine go_ev 100 [4] (iF (c_takesF hL hb hS4.2.1 hS4.2.2.1 (by decide) h6) (by omega) ?_)
          exact go_ev 100 [] (bI (c := (121 : Int32) ≤ nI kk + 1) (fun _ => hend) (fun _ => bT (c := (0 : Int32) = 0) rfl hend))
        | true =>
          obtain ⟨hp1, hp2⟩ := pos_nx (by decide) h6
          have hstep := pos_step hp2
          rw [pOrs_s h6, ← hp1] at hres4
          have hS5 := Sta_nw hS4 hp2
          refine go_ev 100 [4] (iF (c_takesT hL hb hS4.2.1 hS4.2.2.1 (by decide) h6) (by omega) ?_)
          refine ih (kk + 1) (k4 + 1) Z (nw c4 k4) _ _ (nI_succ kk).symm (by omega) (by omega) hS5 (fun z => absurd z (Nat.succ_ne_zero kk)) ?_
          rw [hres4]
          congr 1
      refine go_ev 100 [4, 27, 71] (bF (c := (121 : Int32) ≤ nI kk) h121 (bF (c := (1 : Int32) = 0) (by decide) ?_))
      refine iC (hOne c' k' (S ++ Y) hS.2.1 hS.2.2.1 hS.2.2.2.1) (by omega) ?_
      rw [pTrm_rb] at hres
      rintro _ _ ⟨c2, rfl, hRd, ⟨f, pl, hr, g1, g2, g3, rfl⟩ | ⟨A, j2, k2, hr, g1, g2, g3, g4, rfl⟩⟩
      · refine bT (c := (0 : Int32) = 0) rfl (And.intro rfl (qcl ?_ (RdS_tr hS.1 hRd) g1 g2 g3))
        rw [hres, hr]
        rfl
      · refine bF (c := (1 : Int32) = 0) (by decide) ?_
        have hgt := hprog _ _ _ hr
        subst g2
        rw [hr] at hres
        rw [List.append_assoc] at g3
        have hS2 : Sta tx L t c Ro k0 o0 S c2 k2 (Y ++ A) := ⟨RdS_tr hS.1 hRd, RB_rd hRd hS.2.1, g1, g3, g4.trans hS.2.2.2.2⟩
        refine kA (fun p => pOrs tx L one (fuel + 1) (if kk = 0 then p.1 else Y ++ p.1 ++ [opS 7]) p.2) (nI kk) Y (pos tx L k' + 1) ?_ (L + 1) 0 k2 A c2 0 rfl (Nat.zero_le _) (by omega) (by omega) hS2 hres
        intro k3 A3 c3 jx hS3 hp3 hres3
        have hres3 : pSome tx L one (pos tx L k) = pOrs tx L one (fuel + 1) (if kk = 0 then A3 else Y ++ A3 ++ [opS 7]) (pos tx L k3) := hres3
        refine go_ev 100 [87] (bI (c := nI kk ≤ 0) (fun h => ?_) (fun h => ?_))
        · have hk0 : kk = 0 := by
            have := (nIle (b := 0) (by omega) (by decide)).mp h
            omega
          rw [if_pos hk0] at hres3
          rw [hY hk0, List.nil_append] at hS3
          exact h87 c3 k3 A3 jx hS3 (by omega) hres3
        · have hk0 : ¬ kk = 0 := fun z => h (by rw [z]; decide)
          rw [if_neg hk0] at hres3
          refine iC (c_opS (op := 7) hS3 (by decide)) (by omega) ?_
          rintro _ _ ⟨c4, rfl, i1, i2, rfl⟩
          exact h87 c4 k3 (Y ++ A3 ++ [opS 7]) jx (Sta_op hS3 i1 i2) (by omega) hres3
  refine ctr_ev 100 [4] rfl rfl ?_
  refine kO (L + 1) 0 k [] c 0 none rfl (Nat.zero_le _) (by omega) ⟨RdS_rfl t c, hB, hA, by rw [List.append_nil]; exact hD, rfl⟩ (fun _ => rfl) ?_
  rw [pSome_rb]
  rfl
theorem pos_sg {b : Nat} (hb : knO b = 3) (h : isS tx L b (pos tx L k) = true) : pos tx L (k + 1) = sk tx L (pos tx L k + 1) ∧ pos tx L k < L := by
  unfold isS at h
  rw [Bool.and_eq_true, decide_eq_true_eq, decide_eq_true_eq] at h
  refine ⟨?_, h.1⟩
  show sk tx L (tnd tx L (pos tx L k)) = _
  unfold tnd
  rw [if_pos h.1, h.2, hb]
  rfl
/-- one level: 'not' and '(' over the level below -/
theorem c_deeper {e dp : Nat} (hd : 10 ≤ d) (hL : L ≤ 120) (hb : ∀ i, tx i < 256)
    (hOne : ∀ (c : Sd) (k : Nat) (S : List StpT), RB tx L t c → Ar tx L k c → Dr c t (Ro ++ [(k0, o0, S.length)], S) → Ctr d 18 [vR false 3 0, vI (nI dp)] (c, m) (QC tx L t c m Ro k0 o0 S (pOne tx L e (pos tx L k))))
    (hB : RB tx L t c) (hA : Ar tx L k c) (hD : Dr c t (Ro ++ [(k0, o0, S.length)], S)) (hw : isW tx L 7 (pos tx L k) = true ∨ isS tx L 40 (pos tx L k) = true) : Ctr (d + 2) 19 [vR false 3 0, vI (nI dp)] (c, m) (QC tx L t c m Ro k0 o0 S (pOne tx L (e + 1) (pos tx L k))) := by
  have hS0 : Sta tx L t c Ro k0 o0 S c k [] := ⟨RdS_rfl t c, hB, hA, by rw [List.append_nil]; exact hD, rfl⟩
  cases h7 : isW tx L 7 (pos tx L k) with
  | true =>
    obtain ⟨hp1, hp2⟩ := pos_nx (by decide) h7
    rw [pOne_n h7, ← hp1]
    have hS1 := Sta_nw hS0 hp2
    refine ctr_ev 100 [] rfl rfl (iF (c_takesT hL hb hB hA (by decide) h7) (by omega) (bF (c := (1 : Int32) = 0) (by decide) ?_))
    refine iC (hOne (nw c k) (k + 1) (S ++ []) hS1.2.1 hS1.2.2.1 hS1.2.2.2.1) (by omega) ?_
    rintro _ _ ⟨c2, rfl, hRd, ⟨f, pl, hr, g1, g2, g3, rfl⟩ | ⟨A, j2, k2, hr, g1, g2, g3, g4, rfl⟩⟩
    · refine bT (c := (0 : Int32) = 0) rfl (And.intro rfl (qcl ?_ (RdS_tr hS1.1 hRd) g1 g2 g3))
      rw [hr]
      rfl
    · refine bF (c := (1 : Int32) = 0) (by decide) ?_
      rw [List.append_nil] at g3
      have hS2 : Sta tx L t c Ro k0 o0 S c2 k2 A := ⟨RdS_tr hS1.1 hRd, RB_rd hRd hS1.2.1, g1, g3, g4.trans hS1.2.2.2.2⟩
      refine iC (c_opS (op := 5) hS2 (by decide)) (by omega) ?_
      rintro _ _ ⟨c3, rfl, i1, i2, rfl⟩
      have hS3 := Sta_op hS2 i1 i2
      refine And.intro rfl (qcr ?_ hS3.1 hS3.2.2.1 g2 hS3.2.2.2.1 hS3.2.2.2.2)
      rw [hr]
      rfl
  | false =>
    have h40 : isS tx L 40 (pos tx L k) = true := hw.resolve_left (by rw [h7]; exact Bool.false_ne_true)
    obtain ⟨hp1, hp2⟩ := pos_sg (by decide) h40
    rw [pOne_p h7 h40, ← hp1]
    have hS1 := Sta_nw hS0 hp2
    have hw1 : ((up3 c.1 3 0 5 (c.1 3 0 5 + 1), c.2.1, c.2.2) : Sd) = nw c k := by
      rw [hA.1, ← nI_succ]
      rfl
    have hSome := c_some (m := m) (Ro := Ro) (k0 := k0) (o0 := o0) (S := S ++ []) (show 9 ≤ d by omega) hL hb (pOne_gt e) (nI dp) hOne hS1.2.1 hS1.2.2.1 hS1.2.2.2.1
    rw [← hw1] at hSome
    refine ctr_ev 100 [] rfl rfl (iF (c_takesF hL hb hB hA (by decide) h7) (by omega) (bT (c := (0 : Int32) = 0) rfl ?_))
    refine iC hSome (by omega) ?_
    rw [hw1]
    rintro _ _ ⟨c2, rfl, hRd, ⟨f, pl, hr, g1, g2, g3, rfl⟩ | ⟨A, j2, k2, hr, g1, g2, g3, g4, rfl⟩⟩
    · refine bT (c := (0 : Int32) = 0) rfl (And.intro rfl (qcl ?_ (RdS_tr hS1.1 hRd) g1 g2 g3))
      rw [hr]
      rfl
    · refine bF (c := (1 : Int32) = 0) (by decide) ?_
      rw [List.append_nil] at g3
      subst g2
      have hS2 : Sta tx L t c Ro k0 o0 S c2 k2 A := ⟨RdS_tr hS1.1 hRd, RB_rd hRd hS1.2.1, g1, g3, g4.trans hS1.2.2.2.2⟩
      have hsg := c_isSign (m := m) hL hb hS2.2.1 hS2.2.2.1 (b := 41) (by decide) (by decide)
      cases h41 : isS tx L 41 (pos tx L k2) with
      | false =>
        rw [h41] at hsg
        refine iF hsg (by omega) (bT (c := (0 : Int32) = 0) rfl ?_)
        refine iF (c_fails hL hS2.2.1 hS2.2.2.1 1) (by omega) (And.intro rfl (qcl (f := 1) (pl := pos tx L k2) ?_ (RdS_tr hS2.1 (RdS_rf (fl_rf _ _ _))) (Dr_rf (fl_rf _ _ _) hS2.2.2.2.1).1 (fl_at _ _ _).1 (fl_at _ _ _).2))
        rw [hr]
        show (if isS tx L 41 (pos tx L k2) = true then _ else _) = _
        rw [if_neg (by rw [h41]; exact Bool.false_ne_true)]
      | true =>
        obtain ⟨hp3, hp4⟩ := pos_sg (by decide) h41
        rw [h41] at hsg
        refine iF hsg (by omega) (bF (c := (1 : Int32) = 0) (by decide) ?_)
        have hS3 := Sta_nw hS2 hp4
        have hw3 : ((up3 c2.1 3 0 5 (c2.1 3 0 5 + 1), c2.2.1, c2.2.2) : Sd) = nw c2 k2 := by
          rw [hS2.2.2.1.1, ← nI_succ]
          rfl
        refine And.intro rfl (qcr (c' := (up3 c2.1 3 0 5 (c2.1 3 0 5 + 1), c2.2.1, c2.2.2)) (A := A) (j := sk tx L (pos tx L k2 + 1)) (k' := k2 + 1) ?_ ?_ ?_ hp3.symm ?_ ?_)
        · rw [hr]
          show (if isS tx L 41 (pos tx L k2) = true then _ else _) = _
          rw [if_pos h41]
        · rw [hw3]
          exact hS3.1
        · rw [hw3]
          exact hS3.2.2.1
        · rw [hw3]
          exact hS3.2.2.2.1
        · rw [hw3]
          exact hS3.2.2.2.2
theorem c_one (hL : L ≤ 120) (hb : ∀ i, tx i < 256) : ∀ (e : Nat), e ≤ 6 → ∀ (c : Sd) (k : Nat) (S : List StpT), RB tx L t c → Ar tx L k c → Dr c t (Ro ++ [(k0, o0, S.length)], S) → Ctr (10 + 3 * e) 18 [vR false 3 0, vI (nI (6 - e))] (c, m) (QC tx L t c m Ro k0 o0 S (pOne tx L e (pos tx L k))) := by
  intro e
  induction e with
  | zero =>
    intro _ c k S hB hA hD
    have hno := c_isWord (m := m) hL hb hB hA (q := 7) (by decide)
    have hsg := c_isSign (m := m) hL hb hB hA (b := 40) (by decide) (by decide)
    have hdeep : (isW tx L 7 (pos tx L k) = true ∨ isS tx L 40 (pos tx L k) = true) → Go 10 18 none 18 [some (vR false 3 0), some (vI (nI (6 - 0)))] [] (c, m) (QC tx L t c m Ro k0 o0 S (pOne tx L 0 (pos tx L k))) := by
      intro hz
      refine go_ev 100 [] (bT (c := (6 : Int32) ≤ nI (6 - 0)) (by decide) ?_)
      exact iF (c_fails hL hB hA 4) (by decide) (And.intro rfl (qcl (pOne_0 hz) (RdS_rf (fl_rf _ _ _)) (Dr_rf (fl_rf _ _ _) hD).1 (fl_at _ _ _).1 (fl_at _ _ _).2))
    refine ctr_ev 100 [18, 40] rfl rfl (iF hno (by decide) (bI (fun h => ?_) (fun h => ?_)))
    · rw [bb0] at h
      refine iF hsg (by decide) (bI (fun h2 => ?_) (fun h2 => ?_))
      · rw [bb0] at h2
        rw [pOne_b h h2]
        exact c_base (by decide) hL hb hB hA hD _
      · rw [bb0, Bool.not_eq_false] at h2
        exact hdeep (Or.inr h2)
    · rw [bb0, Bool.not_eq_false] at h
      exact hdeep (Or.inl h)
  | succ e ih =>
    intro he c k S hB hA hD
    have hno := c_isWord (m := m) hL hb hB hA (q := 7) (by decide)
    have hsg := c_isSign (m := m) hL hb hB hA (b := 40) (by decide) (by decide)
    have hdp : nI (6 - (e + 1)) + 1 = nI (6 - e) := by
      rw [← nI_succ]
      congr 1
      omega
    have hdeep : (isW tx L 7 (pos tx L k) = true ∨ isS tx L 40 (pos tx L k) = true) → Go (10 + 3 * (e + 1)) 18 none 18 [some (vR false 3 0), some (vI (nI (6 - (e + 1))))] [] (c, m) (QC tx L t c m Ro k0 o0 S (pOne tx L (e + 1) (pos tx L k))) := by
      intro hz
      refine go_ev 100 [] (bF (c := (6 : Int32) ≤ nI (6 - (e + 1))) (by rw [show (6 : Int32) = nI 6 from rfl, nIle (by decide) (by omega)]; omega) ?_)
      have hDp := c_deeper (m := m) (Ro := Ro) (k0 := k0) (o0 := o0) (S := S) (e := e) (dp := 6 - e) (d := 10 + 3 * e) (by omega) hL hb (ih (by omega)) hB hA hD hz
      rw [← hdp] at hDp
      refine iC hDp (by omega) ?_
      rintro _ _ ⟨c2, rfl, hRd, ⟨f, pl, hr, g1, g2, g3, rfl⟩ | ⟨A, j2, k2, hr, g1, g2, g3, g4, rfl⟩⟩
      · exact And.intro rfl (qcl hr hRd g1 g2 g3)
      · exact And.intro rfl (qcr hr hRd g1 g2 g3 g4)
    refine ctr_ev 100 [18, 40] rfl rfl (iF hno (by omega) (bI (fun h => ?_) (fun h => ?_)))
    · rw [bb0] at h
      refine iF hsg (by omega) (bI (fun h2 => ?_) (fun h2 => ?_))
      · rw [bb0] at h2
        rw [pOne_b h h2]
        exact c_base (by omega) hL hb hB hA hD _
      · rw [bb0, Bool.not_eq_false] at h2
        exact hdeep (Or.inr h2)
    · rw [bb0, Bool.not_eq_false] at h
      exact hdeep (Or.inl h)
end LEV
end
section
/-! the class: rules, a whole text -/
section PRR
variable {tx : Nat → Nat} {L : Nat}
theorem pMuch_gt {i k o j : Nat} (h : pMuch tx L i = .inr (k, o, j)) : i < j ∧ k < 4 ∧ o < 6 ∧ (k = 0 → o < 4) := by
  unfold pMuch at h
  split at h
  · rename_i h1
    have := nx_gt (by decide) h1
    cases h
    omega
  · split at h
    · rename_i h1
      have := nx_gt (by decide) h1
      cases h
      omega
    · split at h
      · rename_i h1
        have := nx_gt (by decide) h1
        cases h2 : pNum tx L 0 5 (nx tx L i) with
        | inl x =>
          rw [h2] at h
          cases h
        | inr a =>
          obtain ⟨v, l⟩ := a
          rw [h2] at h
          cases h
          have := pNum_gt h2
          omega
      · cases h2 : pNum tx L 0 3 i with
        | inl x =>
          rw [h2] at h
          cases h
        | inr a =>
          obtain ⟨v, l⟩ := a
          rw [h2] at h
          cases h
          have := pNum_gt h2
          omega
theorem pRule_rb (i : Nat) : pRule tx L i = rb (pMuch tx L i) (fun p => if isW tx L 1 p.2.2 = true then rb (pSome tx L (pOne tx L 6) (nx tx L p.2.2)) (fun r => .inr (p.1, p.2.1, r.1, r.2)) else .inr (p.1, p.2.1, [], p.2.2)) := by
  unfold pRule
  cases pMuch tx L i with
  | inl x => rfl
  | inr p =>
    obtain ⟨k, o, j⟩ := p
    show (if isW tx L 1 j = true then _ else _) = (if isW tx L 1 j = true then _ else _)
    split
    · cases pSome tx L (pOne tx L 6) (nx tx L j) <;> rfl
    · rfl
theorem pRule_gt {i k o j : Nat} {A : List StpT} (h : pRule tx L i = .inr (k, o, A, j)) : i < j := by
  rw [pRule_rb] at h
  cases h1 : pMuch tx L i with
  | inl x =>
    rw [h1] at h
    cases h
  | inr p =>
    obtain ⟨k1, o1, j1⟩ := p
    have g1 := pMuch_gt h1
    rw [h1] at h
    have h : (if isW tx L 1 j1 = true then rb (pSome tx L (pOne tx L 6) (nx tx L j1)) (fun r => (.inr (k1, o1, r.1, r.2) : Rs (Nat × Nat × List StpT × Nat))) else .inr (k1, o1, [], j1)) = .inr (k, o, A, j) := h
    split at h
    · rename_i h2
      have g2 := nx_gt (by decide) h2
      cases h3 : pSome tx L (pOne tx L 6) (nx tx L j1) with
      | inl x =>
        rw [h3] at h
        cases h
      | inr r =>
        rw [h3] at h
        have g3 := pSome_gt (pOne_gt 6) h3
        cases h
        omega
    · cases h
      omega
theorem pRules_s (f : Nat) (T : Trm) (i : Nat) : pRules tx L (f + 1) T i = rb (pRule tx L i) (fun p => if isW tx L 0 p.2.2.2 = true then pRules tx L f (T.1 ++ [(p.1, p.2.1, (T.2 ++ p.2.2.1).length)], T.2 ++ p.2.2.1) (nx tx L p.2.2.2) else if p.2.2.2 < L then .inl (1, p.2.2.2) else .inr (T.1 ++ [(p.1, p.2.1, (T.2 ++ p.2.2.1).length)], T.2 ++ p.2.2.1)) := by
  conv => lhs; unfold pRules
  cases pRule tx L i with
  | inl x => rfl
  | inr p => rfl
end PRR
def QM (tx : Nat → Nat) (L t : Nat) (c m : Sd) {α : Type} (res : Rs α) (ps : α → Nat) (T : α → Trm) : Wd → Option PV → Prop := fun w' r' => ∃ c', w' = (c', m) ∧ RdS t c c' ∧ ((∃ f pl, res = .inl (f, pl) ∧ DR c' t ∧ c'.1 3 0 12 = nI f ∧ c'.1 3 0 13 = nI pl ∧ r' = some (vI 0)) ∨ (∃ a k', res = .inr a ∧ Ar tx L k' c' ∧ ps a = pos tx L k' ∧ Dr c' t (T a) ∧ c'.1 3 0 13 = c.1 3 0 13 ∧ r' = some (vI 1)))
section RUL
variable {tx : Nat → Nat} {L t k d : Nat} {c m : Sd} {Ro : List (Nat × Nat × Nat)} {S : List StpT}
theorem qml {α : Type} {c' : Sd} {res : Rs α} {ps : α → Nat} {T : α → Trm} {f pl : Nat} (h : res = .inl (f, pl)) (h1 : RdS t c c') (h2 : DR c' t) (h3 : c'.1 3 0 12 = nI f) (h4 : c'.1 3 0 13 = nI pl) : QM tx L t c m res ps T (c', m) (some (vI 0)) := ⟨c', rfl, h1, Or.inl ⟨f, pl, h, h2, h3, h4, rfl⟩⟩
theorem qmr {α : Type} {c' : Sd} {res : Rs α} {ps : α → Nat} {T : α → Trm} {a : α} {k' : Nat} (h : res = .inr a) (h1 : RdS t c c') (h2 : Ar tx L k' c') (h3 : ps a = pos tx L k') (h4 : Dr c' t (T a)) (h5 : c'.1 3 0 13 = c.1 3 0 13) : QM tx L t c m res ps T (c', m) (some (vI 1)) := ⟨c', rfl, h1, Or.inr ⟨a, k', h, h2, h3, h4, h5, rfl⟩⟩
theorem c_readMuch (hL : L ≤ 120) (hb : ∀ i, tx i < 256) (hB : RB tx L t c) (hA : Ar tx L k c) (hD : Dr c t (Ro, S)) : Ctr 9 16 [vR false 3 0] (c, m) (QM tx L t c m (pMuch tx L (pos tx L k)) (fun p => p.2.2) (fun p => (Ro ++ [(p.1, p.2.1, S.length)], S))) := by
  have hrf : RfS c (nu c 0) := nu_rf c 0
  have hB1 := RB_rf hrf hB
  have hA1 : Ar tx L k (nu c 0) := hA
  have e6 : (nu c 0).1 3 0 6 = nI 0 := rfl
  have e13 : (nu c 0).1 3 0 13 = c.1 3 0 13 := rfl
  have h68 : ∀ (kd o k' j : Nat) (c' : Sd), RfS c c' → Ar tx L k' c' → c'.1 3 0 6 = nI o → c'.1 3 0 13 = c.1 3 0 13 → pMuch tx L (pos tx L k) = .inr (kd, o, j) → j = pos tx L k' → Go 9 16 none 68 [some (vR false 3 0), some (vI (nI kd))] [] (c', m) (QM tx L t c m (pMuch tx L (pos tx L k)) (fun p => p.2.2) (fun p => (Ro ++ [(p.1, p.2.1, S.length)], S))) := by
    intro kd o k' j c' h1 h2 h3 h4 h5 h6
    have hAR : Ctr 0 37 [vR false 11 (c'.2.2 3 0), vI (nI kd), vI (c'.1 3 0 6)] (c', m) (QDf t c' m (Ro ++ [(kd, o, S.length)], S)) := by
      rw [(RB_rf h1 hB).2.2, h3]
      exact c_addRule (Dr_rf h1 hD)
    refine go_ev 100 [] (iC hAR (by decide) ?_)
    rintro _ _ ⟨c2, rfl, i1, i2, rfl⟩
    exact And.intro rfl (qmr h5 (RdS_tr (RdS_rf h1) (RdS_df i1)) ⟨(i1.1 3 0 5 (fun z => absurd z.1 (by decide))).trans h2.1, h2.2⟩ h6 i2 ((i1.1 3 0 13 (fun z => absurd z.1 (by decide))).trans h4))
  refine ctr_ev 100 [68] rfl rfl ?_
  cases w2 : isW tx L 2 (pos tx L k) with
  | true =>
    obtain ⟨hp1, hp2⟩ := pos_nx (by decide) w2
    refine iF (c_takesT hL hb hB1 hA1 (by decide) w2) (by decide) (bF (c := (1 : Int32) = 0) (by decide) ?_)
    refine h68 2 0 (k + 1) (nx tx L (pos tx L k)) (nw (nu c 0) k) (RfS_tr hrf (nw_rf _ _)) (nw_ar hA.2 hp2) ((nw_o _ _ (by decide)).trans e6) ((nw_o _ _ (by decide)).trans e13) ?_ hp1.symm
    unfold pMuch
    rw [if_pos w2]
  | false =>
    refine iF (c_takesF hL hb hB1 hA1 (by decide) w2) (by decide) (bT (c := (0 : Int32) = 0) rfl ?_)
    cases w3 : isW tx L 3 (pos tx L k) with
    | true =>
      obtain ⟨hp1, hp2⟩ := pos_nx (by decide) w3
      refine iF (c_takesT hL hb hB1 hA1 (by decide) w3) (by decide) (bF (c := (1 : Int32) = 0) (by decide) ?_)
      refine h68 3 0 (k + 1) (nx tx L (pos tx L k)) (nw (nu c 0) k) (RfS_tr hrf (nw_rf _ _)) (nw_ar hA.2 hp2) ((nw_o _ _ (by decide)).trans e6) ((nw_o _ _ (by decide)).trans e13) ?_ hp1.symm
      unfold pMuch
      rw [if_neg (by rw [w2]; exact Bool.false_ne_true), if_pos w3]
    | false =>
      refine iF (c_takesF hL hb hB1 hA1 (by decide) w3) (by decide) (bT (c := (0 : Int32) = 0) rfl ?_)
      cases w4 : isW tx L 4 (pos tx L k) with
      | true =>
        obtain ⟨hp1, hp2⟩ := pos_nx (by decide) w4
        have hrf2 := RfS_tr hrf (nw_rf (nu c 0) k)
        refine iF (c_takesT hL hb hB1 hA1 (by decide) w4) (by decide) (bF (c := (1 : Int32) = 0) (by decide) ?_)
        refine iC (c_readNumber (lo := 0) (hi := 5) hL hb (RB_rf hrf2 hB) (nw_ar hA.2 hp2) (by decide) (by decide)) (by decide) ?_
        have hres : pMuch tx L (pos tx L k) = rb (pNum tx L 0 5 (pos tx L (k + 1))) (fun p => .inr (1, p.1, p.2)) := by
          unfold pMuch
          rw [if_neg (by rw [w2]; exact Bool.false_ne_true), if_neg (by rw [w3]; exact Bool.false_ne_true), if_pos w4, hp1]
          cases pNum tx L 0 5 (nx tx L (pos tx L k)) <;> rfl
        rintro _ _ ⟨c2, rfl, ⟨f, pl, hr, ⟨hF, h12, h13⟩, rfl⟩ | ⟨v, j, hr, ⟨h1, h2, h3, h4, h5, h6⟩, rfl⟩⟩
        · refine bT (c := (0 : Int32) = 0) rfl (And.intro rfl (qml ?_ (RdS_rf (RfS_tr hrf2 hF)) (Dr_rf (RfS_tr hrf2 hF) hD).1 h12 h13))
          rw [hres, hr]
          rfl
        · refine bF (c := (1 : Int32) = 0) (by decide) ?_
          refine h68 1 v (k + 1 + 1) j c2 (RfS_tr hrf2 h1) h2 h5 ((h6 13 (by decide) (by decide)).trans ((nw_o _ _ (by decide)).trans e13)) ?_ h3
          rw [hres, hr]
          rfl
      | false =>
        refine iF (c_takesF hL hb hB1 hA1 (by decide) w4) (by decide) (bT (c := (0 : Int32) = 0) rfl ?_)
        refine iC (c_readNumber (lo := 0) (hi := 3) hL hb hB1 hA1 (by decide) (by decide)) (by decide) ?_
        have hres : pMuch tx L (pos tx L k) = rb (pNum tx L 0 3 (pos tx L k)) (fun p => .inr (0, p.1, p.2)) := by
          unfold pMuch
          rw [if_neg (by rw [w2]; exact Bool.false_ne_true), if_neg (by rw [w3]; exact Bool.false_ne_true), if_neg (by rw [w4]; exact Bool.false_ne_true)]
          cases pNum tx L 0 3 (pos tx L k) <;> rfl
        rintro _ _ ⟨c2, rfl, ⟨f, pl, hr, ⟨hF, h12, h13⟩, rfl⟩ | ⟨v, j, hr, ⟨h1, h2, h3, h4, h5, h6⟩, rfl⟩⟩
        · refine bT (c := (0 : Int32) = 0) rfl (And.intro rfl (qml ?_ (RdS_rf (RfS_tr hrf hF)) (Dr_rf (RfS_tr hrf hF) hD).1 h12 h13))
          rw [hres, hr]
          rfl
        · refine bF (c := (1 : Int32) = 0) (by decide) ?_
          refine h68 0 v (k + 1) j c2 (RfS_tr hrf h1) h2 h5 ((h6 13 (by decide) (by decide)).trans e13) ?_ h3
          rw [hres, hr]
          rfl
theorem c_readRule (hL : L ≤ 120) (hb : ∀ i, tx i < 256) (hB : RB tx L t c) (hA : Ar tx L k c) (hD : Dr c t (Ro, S)) : Ctr 30 15 [vR false 3 0] (c, m) (QM tx L t c m (pRule tx L (pos tx L k)) (fun p => p.2.2.2) (fun p => (Ro ++ [(p.1, p.2.1, (S ++ p.2.2.1).length)], S ++ p.2.2.1))) := by
  rw [pRule_rb]
  refine ctr_ev 100 [] rfl rfl (iC (c_readMuch hL hb hB hA hD) (by decide) ?_)
  rintro _ _ ⟨c2, rfl, hRd, ⟨f, pl, hr, g1, g2, g3, rfl⟩ | ⟨⟨kd, o, j⟩, k2, hr, g1, g2, g3, g4, rfl⟩⟩
  · refine bT (c := (0 : Int32) = 0) rfl (And.intro rfl (qml ?_ hRd g1 g2 g3))
    rw [hr]
    rfl
  · refine bF (c := (1 : Int32) = 0) (by decide) ?_
    have g2 : j = pos tx L k2 := g2
    subst g2
    have g3 : Dr c2 t (Ro ++ [(kd, o, S.length)], S) := g3
    have hB2 := RB_rd hRd hB
    rw [hr]
    cases w1 : isW tx L 1 (pos tx L k2) with
    | false =>
      refine iF (c_takesF hL hb hB2 g1 (by decide) w1) (by decide) (bT (c := (0 : Int32) = 0) rfl (And.intro rfl (qmr (a := (kd, o, [], pos tx L k2)) ?_ hRd g1 rfl ?_ g4)))
      · show (if isW tx L 1 (pos tx L k2) = true then _ else _) = _
        rw [if_neg (by rw [w1]; exact Bool.false_ne_true)]
      · show Dr c2 t (Ro ++ [(kd, o, (S ++ []).length)], S ++ [])
        rw [List.append_nil]
        exact g3
    | true =>
      obtain ⟨hp1, hp2⟩ := pos_nx (by decide) w1
      refine iF (c_takesT hL hb hB2 g1 (by decide) w1) (by decide) (bF (c := (1 : Int32) = 0) (by decide) ?_)
      refine iC (c_some (d := 28) (Ro := Ro) (k0 := kd) (o0 := o) (S := S) (by decide) hL hb (pOne_gt 6) (nI 0) (c_one (Ro := Ro) (k0 := kd) (o0 := o) hL hb 6 (Nat.le_refl _)) (RB_rf (nw_rf c2 k2) hB2) (nw_ar g1.2 hp2) (Dr_rf (nw_rf c2 k2) g3)) (by decide) ?_
      have hres : rb (.inr (kd, o, pos tx L k2) : Rs (Nat × Nat × Nat)) (fun p => if isW tx L 1 p.2.2 = true then rb (pSome tx L (pOne tx L 6) (nx tx L p.2.2)) (fun r => (.inr (p.1, p.2.1, r.1, r.2) : Rs (Nat × Nat × List StpT × Nat))) else .inr (p.1, p.2.1, [], p.2.2)) = rb (pSome tx L (pOne tx L 6) (pos tx L (k2 + 1))) (fun r => .inr (kd, o, r.1, r.2)) := by
        show (if isW tx L 1 (pos tx L k2) = true then _ else _) = _
        rw [if_pos w1, hp1]
      rw [hres]
      have hRd2 := RdS_tr hRd (RdS_rf (nw_rf c2 k2))
      rintro _ _ ⟨c3, rfl, hRd3, ⟨f, pl, hr, i1, i2, i3, rfl⟩ | ⟨A, j2, k3, hr, i1, i2, i3, i4, rfl⟩⟩
      · refine bT (c := (0 : Int32) = 0) rfl (And.intro rfl (qml ?_ (RdS_tr hRd2 hRd3) i1 i2 i3))
        rw [hr]
        rfl
      · refine bF (c := (1 : Int32) = 0) (by decide) (And.intro rfl (qmr (a := (kd, o, A, j2)) ?_ (RdS_tr hRd2 hRd3) i1 i2 i3 (i4.trans ((nw_o c2 k2 (by decide)).trans g4))))
        rw [hr]
        rfl
def RxS (t : Nat) (c c' : Sd) : Prop := (∀ k i f, ¬ (k = 3 ∧ i = 0 ∧ 4 ≤ f) → ¬ (k = 11 ∧ i = t) → c'.1 k i f = c.1 k i f) ∧ (∀ k i, ¬ (4 ≤ k ∧ k ≤ 6) → ¬ ((12 ≤ k ∧ k ≤ 22) ∧ i = t) → c'.2.1 k i = c.2.1 k i) ∧ c'.2.2 = c.2.2
theorem RxS_rd {t : Nat} {c c' : Sd} (h : RdS t c c') : RxS t c c' := ⟨fun k i f h1 h2 => h.1 k i f (fun z => h1 ⟨z.1, z.2.1, by omega⟩) h2, fun k i _ h1 => h.2.1 k i h1, h.2.2⟩
theorem RxS_sp {t : Nat} {c c' : Sd} (h : SpS c c') : RxS t c c' := ⟨fun k i f h1 _ => h.1 k i f (fun z => h1 ⟨z.1, z.2.1, by omega⟩), fun k i h1 _ => h.2.1 k i h1, h.2.2⟩
theorem RxS_tr {t : Nat} {a b c : Sd} (h : RxS t a b) (h2 : RxS t b c) : RxS t a c := ⟨fun k i f h1 h3 => (h2.1 k i f h1 h3).trans (h.1 k i f h1 h3), fun k i h1 h3 => (h2.2.1 k i h1 h3).trans (h.2.1 k i h1 h3), h2.2.2.trans h.2.2⟩
def QR (t : Nat) (c m : Sd) (res : Rs Trm) : Wd → Option PV → Prop := fun w' r' => ∃ c', w' = (c', m) ∧ RxS t c c' ∧ ((∃ f pl, res = .inl (f, pl) ∧ DR c' t ∧ c'.1 3 0 12 = nI f ∧ c'.1 3 0 13 = nI pl ∧ r' = some (vI 0)) ∨ (∃ T, res = .inr T ∧ Dr c' t T ∧ c'.1 3 0 13 = -1 ∧ r' = some (vI 1)))
theorem qrl {c' : Sd} {res : Rs Trm} {f pl : Nat} (h : res = .inl (f, pl)) (h1 : RxS t c c') (h2 : DR c' t) (h3 : c'.1 3 0 12 = nI f) (h4 : c'.1 3 0 13 = nI pl) : QR t c m res (c', m) (some (vI 0)) := ⟨c', rfl, h1, Or.inl ⟨f, pl, h, h2, h3, h4, rfl⟩⟩
theorem qrr {c' : Sd} {res : Rs Trm} {T : Trm} (h : res = .inr T) (h1 : RxS t c c') (h2 : Dr c' t T) (h3 : c'.1 3 0 13 = -1) : QR t c m res (c', m) (some (vI 1)) := ⟨c', rfl, h1, Or.inr ⟨T, h, h2, h3, rfl⟩⟩
theorem c_read (hL : L ≤ 120) (hb : ∀ i, tx i < 256) (hX : Tx tx L c) (ht : c.2.2 3 0 = t) : Ctr 31 11 [vR false 3 0] (c, m) (QR t c m (pText tx L)) := by
  /- the end -/
  have h62 : ∀ (c' : Sd) (k' : Nat) (T : Trm) (v1 v2 : Int32), RxS t c c' → RB tx L t c' → Ar tx L k' c' → Dr c' t T → c'.1 3 0 13 = -1 → pText tx L = (if pos tx L k' < L then .inl (1, pos tx L k') else .inr T) → Go 31 11 none 62 [some (vR false 3 0), some (vI v1), some (vI v2)] [] (c', m) (QR t c m (pText tx L)) := by
    intro c' k' T v1 v2 h1 h2 h3 h4 h5 hres
    obtain ⟨t1, t2, t3, t4⟩ := tk_at hL h2 h3
    have hkl := knd_lt (tx := tx) (L := L) (pos tx L k')
    refine go_ev 100 [] (dI t1 (bI (c := c'.2.1 4 0 (c'.1 3 0 5).toNatClampNeg = 4) (fun h => ?_) (fun h => ?_)))
    · rw [t2] at h
      have h : knd tx L (pos tx L k') = 4 := (nIeq (b := 4) (by omega) (by decide)).mp h
      have hnl : ¬ pos tx L k' < L := fun z => by
        unfold knd at h
        rw [if_pos z] at h
        have := knO_lt (tx (pos tx L k'))
        omega
      rw [if_neg hnl] at hres
      exact And.intro rfl (qrr hres h1 h4 h5)
    · rw [t2] at h
      have hnl : pos tx L k' < L := by
        apply Classical.byContradiction
        intro z
        apply h
        unfold knd
        rw [if_neg z]
        rfl
      rw [if_pos hnl] at hres
      refine iF (c_fails hL h2 h3 1) (by decide) (bT (c := (0 : Int32) = 0) rfl (And.intro rfl (qrl hres (RxS_tr h1 (RxS_rd (RdS_rf (fl_rf _ _ _)))) (Dr_rf (fl_rf _ _ _) h4).1 (fl_at _ _ _).1 (fl_at _ _ _).2)))
  have kR : ∀ (fuel r k' : Nat) (T : Trm) (c' : Sd) (x : Int32), x = nI r → r ≤ pos tx L k' → L < fuel + pos tx L k' → RxS t c c' → RB tx L t c' → Ar tx L k' c' → Dr c' t T → c'.1 3 0 13 = -1 → pText tx L = pRules tx L fuel T (pos tx L k') → Go 31 11 none 30 [some (vR false 3 0), some (vI 1), some (vI x)] [] (c', m) (QR t c m (pText tx L)) := by
    intro fuel
    induction fuel with
    | zero =>
      intro r k' T c' x hx hr hf h1 h2 h3 h4 h5 hres
      have := pos_le (tx := tx) (L := L) k'
      omega
    | succ fuel ih =>
      intro r k' T c' x hx hr hf h1 h2 h3 h4 h5 hres
      subst hx
      have hple := pos_le (tx := tx) (L := L) k'
      rw [pRules_s] at hres
      refine go_ev 100 [30, 62] (bF (c := (121 : Int32) ≤ nI r) (by rw [show (121 : Int32) = nI 121 from rfl, nIle (by decide) (by omega)]; omega) (bF (c := (1 : Int32) = 0) (by decide) ?_))
      refine iC (c_readRule (Ro := T.1) (S := T.2) hL hb h2 h3 h4) (by decide) ?_
      rintro _ _ ⟨c2, rfl, hRd, ⟨f, pl, hr, g1, g2, g3, rfl⟩ | ⟨⟨kd, o, A, j⟩, k2, hr, g1, g2, g3, g4, rfl⟩⟩
      · refine bT (c := (0 : Int32) = 0) rfl (And.intro rfl (qrl ?_ (RxS_tr h1 (RxS_rd hRd)) g1 g2 g3))
        rw [hres, hr]
        rfl
      · refine bF (c := (1 : Int32) = 0) (by decide) ?_
        have hgt := pRule_gt hr
        have g2 : j = pos tx L k2 := g2
        subst g2
        have g3 : Dr c2 t (T.1 ++ [(kd, o, (T.2 ++ A).length)], T.2 ++ A) := g3
        have hB2 := RB_rd hRd h2
        have hx2 := RxS_tr h1 (RxS_rd hRd)
        have h13 := g4.trans h5
        rw [hr] at hres
        have hres : pText tx L = (if isW tx L 0 (pos tx L k2) = true then pRules tx L fuel (T.1 ++ [(kd, o, (T.2 ++ A).length)], T.2 ++ A) (nx tx L (pos tx L k2)) else if pos tx L k2 < L then .inl (1, pos tx L k2) else .inr (T.1 ++ [(kd, o, (T.2 ++ A).length)], T.2 ++ A)) := hres
        cases w0 : isW tx L 0 (pos tx L k2) with
        | false =>
          rw [if_neg (by rw [w0]; exact Bool.false_ne_true)] at hres
          refine iF (c_takesF hL hb hB2 g1 (by decide) w0) (by decide) ?_
          have hgo := h62 c2 k2 _ 0 (nI r + 1) hx2 hB2 g1 g3 h13 hres
          exact go_ev 100 [62] (bI (c := (121 : Int32) ≤ nI r + 1) (fun _ => hgo) (fun _ => bT (c := (0 : Int32) = 0) rfl hgo))
        | true =>
          obtain ⟨hp1, hp2⟩ := pos_nx (by decide) w0
          have hstep := pos_step hp2
          rw [if_pos w0, ← hp1] at hres
          refine iF (c_takesT hL hb hB2 g1 (by decide) w0) (by decide) ?_
          exact ih (r + 1) (k2 + 1) _ (nw c2 k2) _ (nI_succ r).symm (by omega) (by omega) (RxS_tr hx2 (RxS_rd (RdS_rf (nw_rf c2 k2)))) (RB_rf (nw_rf c2 k2) hB2) (nw_ar g1.2 hp2) (Dr_rf (nw_rf c2 k2) g3) ((nw_o c2 k2 (by decide)).trans h13) hres
  have hrf1 : RfS c (pf (pf c 12 0) 13 (-1)) := RfS_tr (pf_rf c (by decide) _) (pf_rf _ (by decide) _)
  have hWp : Ctr 0 36 [vR false 11 ((pf (pf c 12 0) 13 (-1)).2.2 3 0)] (pf (pf c 12 0) 13 (-1), m) (QDf t (pf (pf c 12 0) 13 (-1)) m ([], [])) := by
    rw [show (pf (pf c 12 0) 13 (-1)).2.2 3 0 = t from ht]
    exact c_wipe
  refine ctr_ev 100 [30] rfl rfl (iC hWp (by decide) ?_)
  rintro _ _ ⟨c2, rfl, i1, i2, rfl⟩
  have hx2 : RxS t c c2 := RxS_tr (RxS_rd (RdS_rf hrf1)) (RxS_rd (RdS_df i1))
  have hX2 : Tx tx L c2 := by
    unfold Tx
    rw [hx2.1 1 0 1 (by decide) (fun z => absurd z.1 (by decide)), hx2.2.1 2 0 (by decide) (by omega)]
    exact hX
  refine iC (c_split hL hb hX2) (by decide) ?_
  rintro _ _ ⟨c3, rfl, hSp, hTk, rfl⟩
  have hx3 := RxS_tr hx2 (RxS_sp hSp)
  have hX3 : Tx tx L c3 := by
    unfold Tx
    rw [hx3.1 1 0 1 (by decide) (fun z => absurd z.1 (by decide)), hx3.2.1 2 0 (by decide) (by omega)]
    exact hX
  have h13 : c3.1 3 0 13 = -1 := by
    rw [hSp.1 3 0 13 (by decide), i1.1 3 0 13 (fun z => absurd z.1 (by decide)), pf_s]
  have hD3 : Dr c3 t ([], []) := by
    unfold Dr DR CT CSl cRul cStp at i2 ⊢
    have e : ∀ g, c3.1 11 t g = c2.1 11 t g := fun g => hSp.1 11 t g (fun z => absurd z.1 (by decide))
    rw [e 3, e 8, e 10]
    rw [hSp.2.1 12 t (by decide), hSp.2.1 13 t (by decide), hSp.2.1 14 t (by decide), hSp.2.1 15 t (by decide), hSp.2.1 16 t (by decide), hSp.2.1 17 t (by decide), hSp.2.1 18 t (by decide), hSp.2.1 22 t (by decide)]
    exact i2
  have hB3 : RB tx L t c3 := ⟨hX3, hTk, by rw [hx3.2.2]; exact ht⟩
  refine kR (L + 1) 0 0 ([], []) (pf c3 5 0) 0 rfl (Nat.zero_le _) (by omega) (RxS_tr hx3 (RxS_rd (RdS_rf (pf_rf c3 (by decide) 0)))) (RB_rf (pf_rf c3 (by decide) 0) hB3) ⟨pf_s c3 5 0, fun j hj => absurd hj (by omega)⟩ (Dr_rf (pf_rf c3 (by decide) 0) hD3) ((pf_n c3 0 (by decide)).trans h13) rfl
end RUL
end
