section
-- ===== PART A: goes FIRST, ahead of the names: the tables' words, and 'selects' of the private methods out of them =====
/-- a private method of a class that the tables say can be made, by its rows of tables_1 -/
def lw_okq (q : MethodName × Nat) : Prop := (q.1.cls ≠ "java/lang/invoke/MethodHandle" ∧ q.1.cls ≠ "java/lang/invoke/VarHandle") ∧ Cond.instantiable q.1.cls q.2 ∈ tables_1 ∧ Cond.privateMethod q.1 ∈ tables_1 ∧ Cond.instanceMethod q.1 ∈ tables_1
theorem lw_p0 : lw_okq (⟨"MenuIsATreaty$Reader", "advance", "()V"⟩, 7) := ⟨⟨by decide +kernel, by decide +kernel⟩, List.mem_of_getElem? (i := 81) (by decide +kernel), List.mem_of_getElem? (i := 207) (by decide +kernel), List.mem_of_getElem? (i := 208) (by decide +kernel)⟩
theorem lw_p1 : lw_okq (⟨"MenuIsATreaty$Reader", "advanceWord", "()V"⟩, 7) := ⟨⟨by decide +kernel, by decide +kernel⟩, List.mem_of_getElem? (i := 81) (by decide +kernel), List.mem_of_getElem? (i := 214) (by decide +kernel), List.mem_of_getElem? (i := 215) (by decide +kernel)⟩
theorem lw_p2 : lw_okq (⟨"MenuIsATreaty$Reader", "isWord", "(Ljava/lang/String;)Z"⟩, 7) := ⟨⟨by decide +kernel, by decide +kernel⟩, List.mem_of_getElem? (i := 81) (by decide +kernel), List.mem_of_getElem? (i := 219) (by decide +kernel), List.mem_of_getElem? (i := 220) (by decide +kernel)⟩
theorem lw_p3 : lw_okq (⟨"MenuIsATreaty$Reader", "advanceNumber", "()V"⟩, 7) := ⟨⟨by decide +kernel, by decide +kernel⟩, List.mem_of_getElem? (i := 81) (by decide +kernel), List.mem_of_getElem? (i := 242) (by decide +kernel), List.mem_of_getElem? (i := 243) (by decide +kernel)⟩
theorem lw_p4 : lw_okq (⟨"MenuIsATreaty$Reader", "expect", "(I)V"⟩, 7) := ⟨⟨by decide +kernel, by decide +kernel⟩, List.mem_of_getElem? (i := 81) (by decide +kernel), List.mem_of_getElem? (i := 249) (by decide +kernel), List.mem_of_getElem? (i := 250) (by decide +kernel)⟩
theorem lw_p5 : lw_okq (⟨"MenuIsATreaty$Reader", "fail", "()V"⟩, 7) := ⟨⟨by decide +kernel, by decide +kernel⟩, List.mem_of_getElem? (i := 81) (by decide +kernel), List.mem_of_getElem? (i := 253) (by decide +kernel), List.mem_of_getElem? (i := 254) (by decide +kernel)⟩
theorem lw_p6 : lw_okq (⟨"MenuIsATreaty$Reader", "readEither", "(LMenuIsATreaty$Text;I)V"⟩, 7) := ⟨⟨by decide +kernel, by decide +kernel⟩, List.mem_of_getElem? (i := 81) (by decide +kernel), List.mem_of_getElem? (i := 257) (by decide +kernel), List.mem_of_getElem? (i := 258) (by decide +kernel)⟩
theorem lw_p7 : lw_okq (⟨"MenuIsATreaty$Reader", "readBoth", "(LMenuIsATreaty$Text;I)V"⟩, 7) := ⟨⟨by decide +kernel, by decide +kernel⟩, List.mem_of_getElem? (i := 81) (by decide +kernel), List.mem_of_getElem? (i := 261) (by decide +kernel), List.mem_of_getElem? (i := 262) (by decide +kernel)⟩
theorem lw_p8 : lw_okq (⟨"MenuIsATreaty$Reader", "readNot", "(LMenuIsATreaty$Text;I)V"⟩, 7) := ⟨⟨by decide +kernel, by decide +kernel⟩, List.mem_of_getElem? (i := 81) (by decide +kernel), List.mem_of_getElem? (i := 265) (by decide +kernel), List.mem_of_getElem? (i := 266) (by decide +kernel)⟩
theorem lw_p9 : lw_okq (⟨"MenuIsATreaty$Reader", "readSum", "(LMenuIsATreaty$Text;I)V"⟩, 7) := ⟨⟨by decide +kernel, by decide +kernel⟩, List.mem_of_getElem? (i := 81) (by decide +kernel), List.mem_of_getElem? (i := 273) (by decide +kernel), List.mem_of_getElem? (i := 274) (by decide +kernel)⟩
theorem lw_p10 : lw_okq (⟨"MenuIsATreaty$Reader", "readTerm", "(LMenuIsATreaty$Text;I)V"⟩, 7) := ⟨⟨by decide +kernel, by decide +kernel⟩, List.mem_of_getElem? (i := 81) (by decide +kernel), List.mem_of_getElem? (i := 277) (by decide +kernel), List.mem_of_getElem? (i := 278) (by decide +kernel)⟩
theorem lw_p11 : lw_okq (⟨"MenuIsATreaty$Reader", "readOne", "(LMenuIsATreaty$Text;I)V"⟩, 7) := ⟨⟨by decide +kernel, by decide +kernel⟩, List.mem_of_getElem? (i := 81) (by decide +kernel), List.mem_of_getElem? (i := 281) (by decide +kernel), List.mem_of_getElem? (i := 282) (by decide +kernel)⟩
theorem lw_p12 : lw_okq (⟨"MenuIsATreaty", "toldOfKitchen", "(II)I"⟩, 10) := ⟨⟨by decide +kernel, by decide +kernel⟩, List.mem_of_getElem? (i := 18) (by decide +kernel), List.mem_of_getElem? (i := 485) (by decide +kernel), List.mem_of_getElem? (i := 486) (by decide +kernel)⟩
theorem lw_p13 : lw_okq (⟨"MenuIsATreaty", "toldOfDish", "(II)I"⟩, 10) := ⟨⟨by decide +kernel, by decide +kernel⟩, List.mem_of_getElem? (i := 18) (by decide +kernel), List.mem_of_getElem? (i := 497) (by decide +kernel), List.mem_of_getElem? (i := 498) (by decide +kernel)⟩
theorem lw_p14 : lw_okq (⟨"MenuIsATreaty$Cooking", "ruleBy", "(I)V"⟩, 16) := ⟨⟨by decide +kernel, by decide +kernel⟩, List.mem_of_getElem? (i := 289) (by decide +kernel), List.mem_of_getElem? (i := 534) (by decide +kernel), List.mem_of_getElem? (i := 535) (by decide +kernel)⟩
theorem lw_p15 : lw_okq (⟨"MenuIsATreaty$Cooking", "ask", "(IIII)I"⟩, 16) := ⟨⟨by decide +kernel, by decide +kernel⟩, List.mem_of_getElem? (i := 289) (by decide +kernel), List.mem_of_getElem? (i := 549) (by decide +kernel), List.mem_of_getElem? (i := 550) (by decide +kernel)⟩
def lw_privs_1 : List (MethodName × Nat) := [(⟨"MenuIsATreaty$Reader", "advance", "()V"⟩, 7), (⟨"MenuIsATreaty$Reader", "advanceWord", "()V"⟩, 7), (⟨"MenuIsATreaty$Reader", "isWord", "(Ljava/lang/String;)Z"⟩, 7), (⟨"MenuIsATreaty$Reader", "advanceNumber", "()V"⟩, 7), (⟨"MenuIsATreaty$Reader", "expect", "(I)V"⟩, 7), (⟨"MenuIsATreaty$Reader", "fail", "()V"⟩, 7), (⟨"MenuIsATreaty$Reader", "readEither", "(LMenuIsATreaty$Text;I)V"⟩, 7), (⟨"MenuIsATreaty$Reader", "readBoth", "(LMenuIsATreaty$Text;I)V"⟩, 7), (⟨"MenuIsATreaty$Reader", "readNot", "(LMenuIsATreaty$Text;I)V"⟩, 7), (⟨"MenuIsATreaty$Reader", "readSum", "(LMenuIsATreaty$Text;I)V"⟩, 7), (⟨"MenuIsATreaty$Reader", "readTerm", "(LMenuIsATreaty$Text;I)V"⟩, 7), (⟨"MenuIsATreaty$Reader", "readOne", "(LMenuIsATreaty$Text;I)V"⟩, 7), (⟨"MenuIsATreaty", "toldOfKitchen", "(II)I"⟩, 10), (⟨"MenuIsATreaty", "toldOfDish", "(II)I"⟩, 10), (⟨"MenuIsATreaty$Cooking", "ruleBy", "(I)V"⟩, 16), (⟨"MenuIsATreaty$Cooking", "ask", "(IIII)I"⟩, 16)]
theorem lw_r1 : ∀ q ∈ lw_privs_1, lw_okq q := List.forall_mem_cons.mpr ⟨lw_p0, List.forall_mem_cons.mpr ⟨lw_p1, List.forall_mem_cons.mpr ⟨lw_p2, List.forall_mem_cons.mpr ⟨lw_p3, List.forall_mem_cons.mpr ⟨lw_p4, List.forall_mem_cons.mpr ⟨lw_p5, List.forall_mem_cons.mpr ⟨lw_p6, List.forall_mem_cons.mpr ⟨lw_p7, List.forall_mem_cons.mpr ⟨lw_p8, List.forall_mem_cons.mpr ⟨lw_p9, List.forall_mem_cons.mpr ⟨lw_p10, List.forall_mem_cons.mpr ⟨lw_p11, List.forall_mem_cons.mpr ⟨lw_p12, List.forall_mem_cons.mpr ⟨lw_p13, List.forall_mem_cons.mpr ⟨lw_p14, List.forall_mem_cons.mpr ⟨lw_p15, fun _ h => absurd h List.not_mem_nil⟩⟩⟩⟩⟩⟩⟩⟩⟩⟩⟩⟩⟩⟩⟩⟩
theorem lw_p16 : lw_okq (⟨"MenuIsATreaty", "isMenu", "(I)Z"⟩, 10) := ⟨⟨by decide +kernel, by decide +kernel⟩, List.mem_of_getElem? (i := 18) (by decide +kernel), List.mem_of_getElem? (i := 616) (by decide +kernel), List.mem_of_getElem? (i := 617) (by decide +kernel)⟩
theorem lw_p17 : lw_okq (⟨"MenuIsATreaty$Plan", "begin", "()V"⟩, 7) := ⟨⟨by decide +kernel, by decide +kernel⟩, List.mem_of_getElem? (i := 355) (by decide +kernel), List.mem_of_getElem? (i := 625) (by decide +kernel), List.mem_of_getElem? (i := 626) (by decide +kernel)⟩
theorem lw_p18 : lw_okq (⟨"MenuIsATreaty$Plan", "goOn", "(II)Z"⟩, 7) := ⟨⟨by decide +kernel, by decide +kernel⟩, List.mem_of_getElem? (i := 355) (by decide +kernel), List.mem_of_getElem? (i := 636) (by decide +kernel), List.mem_of_getElem? (i := 637) (by decide +kernel)⟩
theorem lw_p19 : lw_okq (⟨"MenuIsATreaty$Menus", "goThrough", "(IIIII)V"⟩, 11) := ⟨⟨by decide +kernel, by decide +kernel⟩, List.mem_of_getElem? (i := 388) (by decide +kernel), List.mem_of_getElem? (i := 663) (by decide +kernel), List.mem_of_getElem? (i := 664) (by decide +kernel)⟩
theorem lw_p20 : lw_okq (⟨"MenuIsATreaty$Menus", "weigh", "(IIII)V"⟩, 11) := ⟨⟨by decide +kernel, by decide +kernel⟩, List.mem_of_getElem? (i := 388) (by decide +kernel), List.mem_of_getElem? (i := 667) (by decide +kernel), List.mem_of_getElem? (i := 668) (by decide +kernel)⟩
theorem lw_p21 : lw_okq (⟨"MenuIsATreaty", "sideOf", "(I)I"⟩, 10) := ⟨⟨by decide +kernel, by decide +kernel⟩, List.mem_of_getElem? (i := 18) (by decide +kernel), List.mem_of_getElem? (i := 674) (by decide +kernel), List.mem_of_getElem? (i := 675) (by decide +kernel)⟩
theorem lw_p22 : lw_okq (⟨"MenuIsATreaty", "guess", "(IIILMenuIsATreaty$Sheet;I)I"⟩, 10) := ⟨⟨by decide +kernel, by decide +kernel⟩, List.mem_of_getElem? (i := 18) (by decide +kernel), List.mem_of_getElem? (i := 705) (by decide +kernel), List.mem_of_getElem? (i := 706) (by decide +kernel)⟩
theorem lw_p23 : lw_okq (⟨"MenuIsATreatyModel", "spell", "(IIIIIIIII)V"⟩, 49) := ⟨⟨by decide +kernel, by decide +kernel⟩, List.mem_of_getElem? (i := 796) (by decide +kernel), List.mem_of_getElem? (i := 802) (by decide +kernel), List.mem_of_getElem? (i := 803) (by decide +kernel)⟩
theorem lw_p24 : lw_okq (⟨"MenuIsATreatyModel", "isOf", "(II)Z"⟩, 49) := ⟨⟨by decide +kernel, by decide +kernel⟩, List.mem_of_getElem? (i := 796) (by decide +kernel), List.mem_of_getElem? (i := 961) (by decide +kernel), List.mem_of_getElem? (i := 962) (by decide +kernel)⟩
theorem lw_p25 : lw_okq (⟨"MenuIsATreatyModel", "isDish", "(I)Z"⟩, 49) := ⟨⟨by decide +kernel, by decide +kernel⟩, List.mem_of_getElem? (i := 796) (by decide +kernel), List.mem_of_getElem? (i := 973) (by decide +kernel), List.mem_of_getElem? (i := 974) (by decide +kernel)⟩
theorem lw_p26 : lw_okq (⟨"MenuIsATreatyModel", "needsAll", "(I)I"⟩, 49) := ⟨⟨by decide +kernel, by decide +kernel⟩, List.mem_of_getElem? (i := 796) (by decide +kernel), List.mem_of_getElem? (i := 986) (by decide +kernel), List.mem_of_getElem? (i := 987) (by decide +kernel)⟩
theorem lw_p27 : lw_okq (⟨"MenuIsATreatyModel", "needsOf", "(II)I"⟩, 49) := ⟨⟨by decide +kernel, by decide +kernel⟩, List.mem_of_getElem? (i := 796) (by decide +kernel), List.mem_of_getElem? (i := 990) (by decide +kernel), List.mem_of_getElem? (i := 991) (by decide +kernel)⟩
theorem lw_p28 : lw_okq (⟨"MenuIsATreatyModel", "storeOf", "(I)I"⟩, 49) := ⟨⟨by decide +kernel, by decide +kernel⟩, List.mem_of_getElem? (i := 796) (by decide +kernel), List.mem_of_getElem? (i := 994) (by decide +kernel), List.mem_of_getElem? (i := 995) (by decide +kernel)⟩
theorem lw_p29 : lw_okq (⟨"MenuIsATreatyModel", "lays", "(III)V"⟩, 49) := ⟨⟨by decide +kernel, by decide +kernel⟩, List.mem_of_getElem? (i := 796) (by decide +kernel), List.mem_of_getElem? (i := 998) (by decide +kernel), List.mem_of_getElem? (i := 999) (by decide +kernel)⟩
theorem lw_p30 : lw_okq (⟨"MenuIsATreatyModel", "read", "(II)I"⟩, 49) := ⟨⟨by decide +kernel, by decide +kernel⟩, List.mem_of_getElem? (i := 796) (by decide +kernel), List.mem_of_getElem? (i := 1018) (by decide +kernel), List.mem_of_getElem? (i := 1019) (by decide +kernel)⟩
theorem lw_p31 : lw_okq (⟨"MenuIsATreatyModel", "next", "()V"⟩, 49) := ⟨⟨by decide +kernel, by decide +kernel⟩, List.mem_of_getElem? (i := 796) (by decide +kernel), List.mem_of_getElem? (i := 1022) (by decide +kernel), List.mem_of_getElem? (i := 1023) (by decide +kernel)⟩
def lw_privs_2 : List (MethodName × Nat) := [(⟨"MenuIsATreaty", "isMenu", "(I)Z"⟩, 10), (⟨"MenuIsATreaty$Plan", "begin", "()V"⟩, 7), (⟨"MenuIsATreaty$Plan", "goOn", "(II)Z"⟩, 7), (⟨"MenuIsATreaty$Menus", "goThrough", "(IIIII)V"⟩, 11), (⟨"MenuIsATreaty$Menus", "weigh", "(IIII)V"⟩, 11), (⟨"MenuIsATreaty", "sideOf", "(I)I"⟩, 10), (⟨"MenuIsATreaty", "guess", "(IIILMenuIsATreaty$Sheet;I)I"⟩, 10), (⟨"MenuIsATreatyModel", "spell", "(IIIIIIIII)V"⟩, 49), (⟨"MenuIsATreatyModel", "isOf", "(II)Z"⟩, 49), (⟨"MenuIsATreatyModel", "isDish", "(I)Z"⟩, 49), (⟨"MenuIsATreatyModel", "needsAll", "(I)I"⟩, 49), (⟨"MenuIsATreatyModel", "needsOf", "(II)I"⟩, 49), (⟨"MenuIsATreatyModel", "storeOf", "(I)I"⟩, 49), (⟨"MenuIsATreatyModel", "lays", "(III)V"⟩, 49), (⟨"MenuIsATreatyModel", "read", "(II)I"⟩, 49), (⟨"MenuIsATreatyModel", "next", "()V"⟩, 49)]
theorem lw_r2 : ∀ q ∈ lw_privs_2, lw_okq q := List.forall_mem_cons.mpr ⟨lw_p16, List.forall_mem_cons.mpr ⟨lw_p17, List.forall_mem_cons.mpr ⟨lw_p18, List.forall_mem_cons.mpr ⟨lw_p19, List.forall_mem_cons.mpr ⟨lw_p20, List.forall_mem_cons.mpr ⟨lw_p21, List.forall_mem_cons.mpr ⟨lw_p22, List.forall_mem_cons.mpr ⟨lw_p23, List.forall_mem_cons.mpr ⟨lw_p24, List.forall_mem_cons.mpr ⟨lw_p25, List.forall_mem_cons.mpr ⟨lw_p26, List.forall_mem_cons.mpr ⟨lw_p27, List.forall_mem_cons.mpr ⟨lw_p28, List.forall_mem_cons.mpr ⟨lw_p29, List.forall_mem_cons.mpr ⟨lw_p30, List.forall_mem_cons.mpr ⟨lw_p31, fun _ h => absurd h List.not_mem_nil⟩⟩⟩⟩⟩⟩⟩⟩⟩⟩⟩⟩⟩⟩⟩⟩
theorem lw_p32 : lw_okq (⟨"MenuIsATreatyModel", "byteAt", "(I)I"⟩, 49) := ⟨⟨by decide +kernel, by decide +kernel⟩, List.mem_of_getElem? (i := 796) (by decide +kernel), List.mem_of_getElem? (i := 1026) (by decide +kernel), List.mem_of_getElem? (i := 1027) (by decide +kernel)⟩
theorem lw_p33 : lw_okq (⟨"MenuIsATreatyModel", "isWord", "(IIIIIIII)Z"⟩, 49) := ⟨⟨by decide +kernel, by decide +kernel⟩, List.mem_of_getElem? (i := 796) (by decide +kernel), List.mem_of_getElem? (i := 1035) (by decide +kernel), List.mem_of_getElem? (i := 1036) (by decide +kernel)⟩
theorem lw_p34 : lw_okq (⟨"MenuIsATreatyModel", "isLetter", "(II)Z"⟩, 49) := ⟨⟨by decide +kernel, by decide +kernel⟩, List.mem_of_getElem? (i := 796) (by decide +kernel), List.mem_of_getElem? (i := 1039) (by decide +kernel), List.mem_of_getElem? (i := 1040) (by decide +kernel)⟩
theorem lw_p35 : lw_okq (⟨"MenuIsATreatyModel", "part", "(Z)I"⟩, 49) := ⟨⟨by decide +kernel, by decide +kernel⟩, List.mem_of_getElem? (i := 796) (by decide +kernel), List.mem_of_getElem? (i := 1043) (by decide +kernel), List.mem_of_getElem? (i := 1044) (by decide +kernel)⟩
theorem lw_p36 : lw_okq (⟨"MenuIsATreatyModel", "fail", "()V"⟩, 49) := ⟨⟨by decide +kernel, by decide +kernel⟩, List.mem_of_getElem? (i := 796) (by decide +kernel), List.mem_of_getElem? (i := 1047) (by decide +kernel), List.mem_of_getElem? (i := 1048) (by decide +kernel)⟩
theorem lw_p37 : lw_okq (⟨"MenuIsATreatyModel", "either", "()I"⟩, 49) := ⟨⟨by decide +kernel, by decide +kernel⟩, List.mem_of_getElem? (i := 796) (by decide +kernel), List.mem_of_getElem? (i := 1051) (by decide +kernel), List.mem_of_getElem? (i := 1052) (by decide +kernel)⟩
theorem lw_p38 : lw_okq (⟨"MenuIsATreatyModel", "both", "()I"⟩, 49) := ⟨⟨by decide +kernel, by decide +kernel⟩, List.mem_of_getElem? (i := 796) (by decide +kernel), List.mem_of_getElem? (i := 1055) (by decide +kernel), List.mem_of_getElem? (i := 1056) (by decide +kernel)⟩
theorem lw_p39 : lw_okq (⟨"MenuIsATreatyModel", "not", "()I"⟩, 49) := ⟨⟨by decide +kernel, by decide +kernel⟩, List.mem_of_getElem? (i := 796) (by decide +kernel), List.mem_of_getElem? (i := 1059) (by decide +kernel), List.mem_of_getElem? (i := 1060) (by decide +kernel)⟩
theorem lw_p40 : lw_okq (⟨"MenuIsATreatyModel", "opens", "()Z"⟩, 49) := ⟨⟨by decide +kernel, by decide +kernel⟩, List.mem_of_getElem? (i := 796) (by decide +kernel), List.mem_of_getElem? (i := 1063) (by decide +kernel), List.mem_of_getElem? (i := 1064) (by decide +kernel)⟩
theorem lw_p41 : lw_okq (⟨"MenuIsATreatyModel", "added", "()I"⟩, 49) := ⟨⟨by decide +kernel, by decide +kernel⟩, List.mem_of_getElem? (i := 796) (by decide +kernel), List.mem_of_getElem? (i := 1067) (by decide +kernel), List.mem_of_getElem? (i := 1068) (by decide +kernel)⟩
theorem lw_p42 : lw_okq (⟨"MenuIsATreatyModel", "term", "()I"⟩, 49) := ⟨⟨by decide +kernel, by decide +kernel⟩, List.mem_of_getElem? (i := 796) (by decide +kernel), List.mem_of_getElem? (i := 1071) (by decide +kernel), List.mem_of_getElem? (i := 1072) (by decide +kernel)⟩
theorem lw_p43 : lw_okq (⟨"MenuIsATreatyModel", "atom", "()I"⟩, 49) := ⟨⟨by decide +kernel, by decide +kernel⟩, List.mem_of_getElem? (i := 796) (by decide +kernel), List.mem_of_getElem? (i := 1075) (by decide +kernel), List.mem_of_getElem? (i := 1076) (by decide +kernel)⟩
theorem lw_p44 : lw_okq (⟨"MenuIsATreatyModel", "isSign", "(I)Z"⟩, 49) := ⟨⟨by decide +kernel, by decide +kernel⟩, List.mem_of_getElem? (i := 796) (by decide +kernel), List.mem_of_getElem? (i := 1079) (by decide +kernel), List.mem_of_getElem? (i := 1080) (by decide +kernel)⟩
theorem lw_p45 : lw_okq (⟨"MenuIsATreatyModel", "name", "()I"⟩, 49) := ⟨⟨by decide +kernel, by decide +kernel⟩, List.mem_of_getElem? (i := 796) (by decide +kernel), List.mem_of_getElem? (i := 1083) (by decide +kernel), List.mem_of_getElem? (i := 1084) (by decide +kernel)⟩
theorem lw_p46 : lw_okq (⟨"MenuIsATreatyModel", "tollOf", "(II)I"⟩, 49) := ⟨⟨by decide +kernel, by decide +kernel⟩, List.mem_of_getElem? (i := 796) (by decide +kernel), List.mem_of_getElem? (i := 1098) (by decide +kernel), List.mem_of_getElem? (i := 1099) (by decide +kernel)⟩
theorem lw_p47 : lw_okq (⟨"MenuIsATreatyModel", "crossOf", "(III)I"⟩, 49) := ⟨⟨by decide +kernel, by decide +kernel⟩, List.mem_of_getElem? (i := 796) (by decide +kernel), List.mem_of_getElem? (i := 1102) (by decide +kernel), List.mem_of_getElem? (i := 1103) (by decide +kernel)⟩
def lw_privs_3 : List (MethodName × Nat) := [(⟨"MenuIsATreatyModel", "byteAt", "(I)I"⟩, 49), (⟨"MenuIsATreatyModel", "isWord", "(IIIIIIII)Z"⟩, 49), (⟨"MenuIsATreatyModel", "isLetter", "(II)Z"⟩, 49), (⟨"MenuIsATreatyModel", "part", "(Z)I"⟩, 49), (⟨"MenuIsATreatyModel", "fail", "()V"⟩, 49), (⟨"MenuIsATreatyModel", "either", "()I"⟩, 49), (⟨"MenuIsATreatyModel", "both", "()I"⟩, 49), (⟨"MenuIsATreatyModel", "not", "()I"⟩, 49), (⟨"MenuIsATreatyModel", "opens", "()Z"⟩, 49), (⟨"MenuIsATreatyModel", "added", "()I"⟩, 49), (⟨"MenuIsATreatyModel", "term", "()I"⟩, 49), (⟨"MenuIsATreatyModel", "atom", "()I"⟩, 49), (⟨"MenuIsATreatyModel", "isSign", "(I)Z"⟩, 49), (⟨"MenuIsATreatyModel", "name", "()I"⟩, 49), (⟨"MenuIsATreatyModel", "tollOf", "(II)I"⟩, 49), (⟨"MenuIsATreatyModel", "crossOf", "(III)I"⟩, 49)]
theorem lw_r3 : ∀ q ∈ lw_privs_3, lw_okq q := List.forall_mem_cons.mpr ⟨lw_p32, List.forall_mem_cons.mpr ⟨lw_p33, List.forall_mem_cons.mpr ⟨lw_p34, List.forall_mem_cons.mpr ⟨lw_p35, List.forall_mem_cons.mpr ⟨lw_p36, List.forall_mem_cons.mpr ⟨lw_p37, List.forall_mem_cons.mpr ⟨lw_p38, List.forall_mem_cons.mpr ⟨lw_p39, List.forall_mem_cons.mpr ⟨lw_p40, List.forall_mem_cons.mpr ⟨lw_p41, List.forall_mem_cons.mpr ⟨lw_p42, List.forall_mem_cons.mpr ⟨lw_p43, List.forall_mem_cons.mpr ⟨lw_p44, List.forall_mem_cons.mpr ⟨lw_p45, List.forall_mem_cons.mpr ⟨lw_p46, List.forall_mem_cons.mpr ⟨lw_p47, fun _ h => absurd h List.not_mem_nil⟩⟩⟩⟩⟩⟩⟩⟩⟩⟩⟩⟩⟩⟩⟩⟩
theorem lw_p48 : lw_okq (⟨"MenuIsATreatyModel", "tollPart", "(IIII)I"⟩, 49) := ⟨⟨by decide +kernel, by decide +kernel⟩, List.mem_of_getElem? (i := 796) (by decide +kernel), List.mem_of_getElem? (i := 1106) (by decide +kernel), List.mem_of_getElem? (i := 1107) (by decide +kernel)⟩
theorem lw_p49 : lw_okq (⟨"MenuIsATreatyModel", "says", "(IIIII)I"⟩, 49) := ⟨⟨by decide +kernel, by decide +kernel⟩, List.mem_of_getElem? (i := 796) (by decide +kernel), List.mem_of_getElem? (i := 1110) (by decide +kernel), List.mem_of_getElem? (i := 1111) (by decide +kernel)⟩
theorem lw_p50 : lw_okq (⟨"MenuIsATreatyModel", "canBe", "(II)Z"⟩, 49) := ⟨⟨by decide +kernel, by decide +kernel⟩, List.mem_of_getElem? (i := 796) (by decide +kernel), List.mem_of_getElem? (i := 1117) (by decide +kernel), List.mem_of_getElem? (i := 1118) (by decide +kernel)⟩
theorem lw_p51 : lw_okq (⟨"MenuIsATreatyModel", "crossAll", "(II)I"⟩, 49) := ⟨⟨by decide +kernel, by decide +kernel⟩, List.mem_of_getElem? (i := 796) (by decide +kernel), List.mem_of_getElem? (i := 1121) (by decide +kernel), List.mem_of_getElem? (i := 1122) (by decide +kernel)⟩
theorem lw_p52 : lw_okq (⟨"MenuIsATreatyModel", "signsAt", "(IIII)Z"⟩, 49) := ⟨⟨by decide +kernel, by decide +kernel⟩, List.mem_of_getElem? (i := 796) (by decide +kernel), List.mem_of_getElem? (i := 1125) (by decide +kernel), List.mem_of_getElem? (i := 1126) (by decide +kernel)⟩
theorem lw_p53 : lw_okq (⟨"MenuIsATreatyModel", "feedsOf", "(II)I"⟩, 49) := ⟨⟨by decide +kernel, by decide +kernel⟩, List.mem_of_getElem? (i := 796) (by decide +kernel), List.mem_of_getElem? (i := 1129) (by decide +kernel), List.mem_of_getElem? (i := 1130) (by decide +kernel)⟩
theorem lw_p54 : lw_okq (⟨"MenuIsATreatyModel", "isRatified", "(II)Z"⟩, 49) := ⟨⟨by decide +kernel, by decide +kernel⟩, List.mem_of_getElem? (i := 796) (by decide +kernel), List.mem_of_getElem? (i := 1137) (by decide +kernel), List.mem_of_getElem? (i := 1138) (by decide +kernel)⟩
theorem lw_p55 : lw_okq (⟨"MenuIsATreatyModel", "uses", "(II)V"⟩, 49) := ⟨⟨by decide +kernel, by decide +kernel⟩, List.mem_of_getElem? (i := 796) (by decide +kernel), List.mem_of_getElem? (i := 1141) (by decide +kernel), List.mem_of_getElem? (i := 1142) (by decide +kernel)⟩
theorem lw_p56 : lw_okq (⟨"MenuIsATreatyModel", "counts", "(I)V"⟩, 49) := ⟨⟨by decide +kernel, by decide +kernel⟩, List.mem_of_getElem? (i := 796) (by decide +kernel), List.mem_of_getElem? (i := 1145) (by decide +kernel), List.mem_of_getElem? (i := 1146) (by decide +kernel)⟩
theorem lw_p57 : lw_okq (⟨"MenuIsATreatyModel", "isMenu", "(I)Z"⟩, 49) := ⟨⟨by decide +kernel, by decide +kernel⟩, List.mem_of_getElem? (i := 796) (by decide +kernel), List.mem_of_getElem? (i := 1153) (by decide +kernel), List.mem_of_getElem? (i := 1154) (by decide +kernel)⟩
theorem lw_p58 : lw_okq (⟨"MenuIsATreatyModel", "laysAside", "()V"⟩, 49) := ⟨⟨by decide +kernel, by decide +kernel⟩, List.mem_of_getElem? (i := 796) (by decide +kernel), List.mem_of_getElem? (i := 1157) (by decide +kernel), List.mem_of_getElem? (i := 1158) (by decide +kernel)⟩
theorem lw_p59 : lw_okq (⟨"MenuIsATreatyModel", "cooksAll", "()I"⟩, 49) := ⟨⟨by decide +kernel, by decide +kernel⟩, List.mem_of_getElem? (i := 796) (by decide +kernel), List.mem_of_getElem? (i := 1161) (by decide +kernel), List.mem_of_getElem? (i := 1162) (by decide +kernel)⟩
theorem lw_p60 : lw_okq (⟨"MenuIsATreatyModel", "isCooked", "(II)Z"⟩, 49) := ⟨⟨by decide +kernel, by decide +kernel⟩, List.mem_of_getElem? (i := 796) (by decide +kernel), List.mem_of_getElem? (i := 1165) (by decide +kernel), List.mem_of_getElem? (i := 1166) (by decide +kernel)⟩
theorem lw_p61 : lw_okq (⟨"MenuIsATreatyModel", "laysBack", "()V"⟩, 49) := ⟨⟨by decide +kernel, by decide +kernel⟩, List.mem_of_getElem? (i := 796) (by decide +kernel), List.mem_of_getElem? (i := 1169) (by decide +kernel), List.mem_of_getElem? (i := 1170) (by decide +kernel)⟩
theorem lw_p62 : lw_okq (⟨"MenuIsATreatyModel", "bestOf", "(II)V"⟩, 49) := ⟨⟨by decide +kernel, by decide +kernel⟩, List.mem_of_getElem? (i := 796) (by decide +kernel), List.mem_of_getElem? (i := 1186) (by decide +kernel), List.mem_of_getElem? (i := 1187) (by decide +kernel)⟩
theorem lw_p63 : lw_okq (⟨"MenuIsATreatyModel", "menus", "(IIIIIII)V"⟩, 49) := ⟨⟨by decide +kernel, by decide +kernel⟩, List.mem_of_getElem? (i := 796) (by decide +kernel), List.mem_of_getElem? (i := 1190) (by decide +kernel), List.mem_of_getElem? (i := 1191) (by decide +kernel)⟩
def lw_privs_4 : List (MethodName × Nat) := [(⟨"MenuIsATreatyModel", "tollPart", "(IIII)I"⟩, 49), (⟨"MenuIsATreatyModel", "says", "(IIIII)I"⟩, 49), (⟨"MenuIsATreatyModel", "canBe", "(II)Z"⟩, 49), (⟨"MenuIsATreatyModel", "crossAll", "(II)I"⟩, 49), (⟨"MenuIsATreatyModel", "signsAt", "(IIII)Z"⟩, 49), (⟨"MenuIsATreatyModel", "feedsOf", "(II)I"⟩, 49), (⟨"MenuIsATreatyModel", "isRatified", "(II)Z"⟩, 49), (⟨"MenuIsATreatyModel", "uses", "(II)V"⟩, 49), (⟨"MenuIsATreatyModel", "counts", "(I)V"⟩, 49), (⟨"MenuIsATreatyModel", "isMenu", "(I)Z"⟩, 49), (⟨"MenuIsATreatyModel", "laysAside", "()V"⟩, 49), (⟨"MenuIsATreatyModel", "cooksAll", "()I"⟩, 49), (⟨"MenuIsATreatyModel", "isCooked", "(II)Z"⟩, 49), (⟨"MenuIsATreatyModel", "laysBack", "()V"⟩, 49), (⟨"MenuIsATreatyModel", "bestOf", "(II)V"⟩, 49), (⟨"MenuIsATreatyModel", "menus", "(IIIIIII)V"⟩, 49)]
theorem lw_r4 : ∀ q ∈ lw_privs_4, lw_okq q := List.forall_mem_cons.mpr ⟨lw_p48, List.forall_mem_cons.mpr ⟨lw_p49, List.forall_mem_cons.mpr ⟨lw_p50, List.forall_mem_cons.mpr ⟨lw_p51, List.forall_mem_cons.mpr ⟨lw_p52, List.forall_mem_cons.mpr ⟨lw_p53, List.forall_mem_cons.mpr ⟨lw_p54, List.forall_mem_cons.mpr ⟨lw_p55, List.forall_mem_cons.mpr ⟨lw_p56, List.forall_mem_cons.mpr ⟨lw_p57, List.forall_mem_cons.mpr ⟨lw_p58, List.forall_mem_cons.mpr ⟨lw_p59, List.forall_mem_cons.mpr ⟨lw_p60, List.forall_mem_cons.mpr ⟨lw_p61, List.forall_mem_cons.mpr ⟨lw_p62, List.forall_mem_cons.mpr ⟨lw_p63, fun _ h => absurd h List.not_mem_nil⟩⟩⟩⟩⟩⟩⟩⟩⟩⟩⟩⟩⟩⟩⟩⟩
theorem lw_p64 : lw_okq (⟨"MenuIsATreatyModel", "firstOther", "(II)I"⟩, 49) := ⟨⟨by decide +kernel, by decide +kernel⟩, List.mem_of_getElem? (i := 796) (by decide +kernel), List.mem_of_getElem? (i := 1221) (by decide +kernel), List.mem_of_getElem? (i := 1222) (by decide +kernel)⟩
theorem lw_p65 : lw_okq (⟨"MenuIsATreatyModel", "worthIn", "(II)I"⟩, 49) := ⟨⟨by decide +kernel, by decide +kernel⟩, List.mem_of_getElem? (i := 796) (by decide +kernel), List.mem_of_getElem? (i := 1225) (by decide +kernel), List.mem_of_getElem? (i := 1226) (by decide +kernel)⟩
theorem lw_p66 : lw_okq (⟨"MenuIsATreatyModel", "likeSet", "(I)I"⟩, 49) := ⟨⟨by decide +kernel, by decide +kernel⟩, List.mem_of_getElem? (i := 796) (by decide +kernel), List.mem_of_getElem? (i := 1229) (by decide +kernel), List.mem_of_getElem? (i := 1230) (by decide +kernel)⟩
theorem lw_p67 : lw_okq (⟨"MenuIsATreatyModel", "worthDrawn", "(I)I"⟩, 49) := ⟨⟨by decide +kernel, by decide +kernel⟩, List.mem_of_getElem? (i := 796) (by decide +kernel), List.mem_of_getElem? (i := 1247) (by decide +kernel), List.mem_of_getElem? (i := 1248) (by decide +kernel)⟩
def lw_privs_5 : List (MethodName × Nat) := [(⟨"MenuIsATreatyModel", "firstOther", "(II)I"⟩, 49), (⟨"MenuIsATreatyModel", "worthIn", "(II)I"⟩, 49), (⟨"MenuIsATreatyModel", "likeSet", "(I)I"⟩, 49), (⟨"MenuIsATreatyModel", "worthDrawn", "(I)I"⟩, 49)]
theorem lw_r5 : ∀ q ∈ lw_privs_5, lw_okq q := List.forall_mem_cons.mpr ⟨lw_p64, List.forall_mem_cons.mpr ⟨lw_p65, List.forall_mem_cons.mpr ⟨lw_p66, List.forall_mem_cons.mpr ⟨lw_p67, fun _ h => absurd h List.not_mem_nil⟩⟩⟩⟩
def lw_privs : List (MethodName × Nat) := lw_privs_1 ++ (lw_privs_2 ++ (lw_privs_3 ++ (lw_privs_4 ++ (lw_privs_5))))
def lw_tbl : List Cond := k2_sels lw_privs ++ tables_1
theorem lw_privs_ok : ∀ q ∈ lw_privs, lw_okq q := by
  show ∀ q ∈ lw_privs_1 ++ (lw_privs_2 ++ (lw_privs_3 ++ (lw_privs_4 ++ (lw_privs_5)))), lw_okq q
  exact List.forall_mem_append.mpr ⟨lw_r1, List.forall_mem_append.mpr ⟨lw_r2, List.forall_mem_append.mpr ⟨lw_r3, List.forall_mem_append.mpr ⟨lw_r4, lw_r5⟩⟩⟩⟩
end
section
def RX0 : String := "MenuIsATreaty$Cooking"
def TX0 : u_T := fun k => match k with
  | 0 => ("MenuIsATreaty$Cooking", "texts", "[LMenuIsATreaty$Text;", true)
  | 1 => ("MenuIsATreaty$Cooking", "rule", "LMenuIsATreaty$Text;", false)
  | 2 => ("MenuIsATreaty$Cooking", "kind", "I", false)
  | 3 => ("MenuIsATreaty$Cooking", "number", "I", false)
  | 4 => ("MenuIsATreaty$Cooking", "hour", "I", false)
  | 5 => ("MenuIsATreaty$Cooking", "prides", "[I", true)
  | 6 => ("MenuIsATreaty$Cooking", "needs", "[I", true)
  | 7 => ("MenuIsATreaty$Cooking", "needsTogether", "I", false)
  | 8 => ("MenuIsATreaty$Cooking", "names", "[I", true)
  | 9 => ("MenuIsATreaty$Cooking", "stack", "[I", true)
  | 10 => ("MenuIsATreaty$Cooking", "crossing", "[I", true)
  | 11 => ("MenuIsATreaty$Cooking", "signed", "[Z", true)
  | 12 => ("MenuIsATreaty$Cooking", "canBe", "Z", false)
  | 13 => ("MenuIsATreaty$Cooking", "crosses", "I", false)
  | 14 => ("MenuIsATreaty$Cooking", "toll", "I", false)
  | _ => ("MenuIsATreaty$Cooking", "fed", "I", false)
def tyX0 : Nat → FieldType := fun k => match k with
  | 0 => .array (.object "MenuIsATreaty$Text")
  | 1 => .object "MenuIsATreaty$Text"
  | 2 => .int
  | 3 => .int
  | 4 => .int
  | 5 => .array .int
  | 6 => .array .int
  | 7 => .int
  | 8 => .array .int
  | 9 => .array .int
  | 10 => .array .int
  | 11 => .array .boolean
  | 12 => .boolean
  | 13 => .int
  | 14 => .int
  | _ => .int
abbrev wsX00 : List Cond := u_ws RX0 TX0 16
theorem nmX0 : ∀ a, a < 16 → ∀ b, b < 16 → a ≠ b → (TX0 a).2.1 ≠ (TX0 b).2.1 := by decide +kernel
theorem tyX0_ok : ∀ k, k < 16 → parseFieldDescriptor (TX0 k).2.2.1 = some (tyX0 k) := by decide +kernel
abbrev cX0_init : ByteArray := prog_2_method_1_code
def yX0_init : MethodName := ⟨RX0, "<init>", "([LMenuIsATreaty$Text;)V"⟩
abbrev cX0_takeUp : ByteArray := prog_2_method_2_code
def yX0_takeUp : MethodName := ⟨RX0, "takeUp", "(LMenuIsATreaty$House;I)V"⟩
abbrev cX0_ruleBy : ByteArray := prog_2_method_3_code
def yX0_ruleBy : MethodName := ⟨RX0, "ruleBy", "(I)V"⟩
abbrev cX0_suppose : ByteArray := prog_2_method_4_code
def yX0_suppose : MethodName := ⟨RX0, "suppose", "(II)V"⟩
abbrev cX0_cross : ByteArray := prog_2_method_5_code
def yX0_cross : MethodName := ⟨RX0, "cross", "(I[I)V"⟩
abbrev cX0_judge : ByteArray := prog_2_method_6_code
def yX0_judge : MethodName := ⟨RX0, "judge", "(I)V"⟩
abbrev cX0_ask : ByteArray := prog_2_method_7_code
def yX0_ask : MethodName := ⟨RX0, "ask", "(IIII)I"⟩
abbrev cX0_isCooked : ByteArray := prog_2_method_8_code
def yX0_isCooked : MethodName := ⟨RX0, "isCooked", "(I[I)Z"⟩
abbrev cX0_worth : ByteArray := prog_2_method_9_code
def yX0_worth : MethodName := ⟨RX0, "worth", "()I"⟩
abbrev cX0_firstOtherwise : ByteArray := prog_2_method_10_code
def yX0_firstOtherwise : MethodName := ⟨RX0, "firstOtherwise", "(LMenuIsATreaty$Sheet;[I)I"⟩
abbrev cX0_useUp : ByteArray := prog_2_method_11_code
def yX0_useUp : MethodName := ⟨RX0, "useUp", "(I[I)V"⟩
def RX1 : String := "MenuIsATreaty$House"
def TX1 : u_T := fun k => match k with
  | 0 => ("MenuIsATreaty$House", "stores", "[I", true)
  | 1 => ("MenuIsATreaty$House", "prides", "[I", true)
  | 2 => ("MenuIsATreaty$House", "kinds", "[I", true)
  | 3 => ("MenuIsATreaty$House", "numbers", "[I", true)
  | 4 => ("MenuIsATreaty$House", "needs", "[I", true)
  | 5 => ("MenuIsATreaty$House", "cooked", "[I", true)
  | 6 => ("MenuIsATreaty$House", "dishCount", "I", false)
  | 7 => ("MenuIsATreaty$House", "hour", "I", false)
  | _ => ("MenuIsATreaty$House", "rule", "I", false)
def tyX1 : Nat → FieldType := fun k => match k with
  | 0 => .array .int
  | 1 => .array .int
  | 2 => .array .int
  | 3 => .array .int
  | 4 => .array .int
  | 5 => .array .int
  | 6 => .int
  | 7 => .int
  | _ => .int
abbrev wsX10 : List Cond := u_ws RX1 TX1 9
theorem nmX1 : ∀ a, a < 9 → ∀ b, b < 9 → a ≠ b → (TX1 a).2.1 ≠ (TX1 b).2.1 := by decide +kernel
theorem tyX1_ok : ∀ k, k < 9 → parseFieldDescriptor (TX1 k).2.2.1 = some (tyX1 k) := by decide +kernel
abbrev cX1_init : ByteArray := prog_3_method_1_code
def yX1_init : MethodName := ⟨RX1, "<init>", "()V"⟩
abbrev cX1_hasDish : ByteArray := prog_3_method_2_code
def yX1_hasDish : MethodName := ⟨RX1, "hasDish", "(I)Z"⟩
abbrev cX1_addDish : ByteArray := prog_3_method_3_code
def yX1_addDish : MethodName := ⟨RX1, "addDish", "(III)I"⟩
abbrev cX1_storeOf : ByteArray := prog_3_method_4_code
def yX1_storeOf : MethodName := ⟨RX1, "storeOf", "(I)I"⟩
abbrev cX1_needsOf : ByteArray := prog_3_method_5_code
def yX1_needsOf : MethodName := ⟨RX1, "needsOf", "(II)I"⟩
abbrev cX1_needsTogether : ByteArray := prog_3_method_6_code
def yX1_needsTogether : MethodName := ⟨RX1, "needsTogether", "(I)I"⟩
abbrev cX1_countCooked : ByteArray := prog_3_method_7_code
def yX1_countCooked : MethodName := ⟨RX1, "countCooked", "(I)V"⟩
abbrev cX1_kitchenBy : ByteArray := prog_3_method_8_code
def yX1_kitchenBy : MethodName := ⟨RX1, "kitchenBy", "(II)I"⟩
abbrev cX1_become : ByteArray := prog_3_method_9_code
def yX1_become : MethodName := ⟨RX1, "become", "(LMenuIsATreaty$House;)V"⟩
def RX2 : String := "MenuIsATreaty$Kinds"
def TX2 : u_T := fun k => match k with
  | _ => ("", "", "", false)
def tyX2 : Nat → FieldType := fun k => match k with
  | _ => .int
abbrev wsX20 : List Cond := u_ws RX2 TX2 0
theorem nmX2 : ∀ a, a < 0 → ∀ b, b < 0 → a ≠ b → (TX2 a).2.1 ≠ (TX2 b).2.1 := by decide +kernel
theorem tyX2_ok : ∀ k, k < 0 → parseFieldDescriptor (TX2 k).2.2.1 = some (tyX2 k) := by decide +kernel
abbrev cX2_bounded : ByteArray := prog_4_method_2_code
def yX2_bounded : MethodName := ⟨RX2, "bounded", "(I)I"⟩
abbrev cX2_isUnder : ByteArray := prog_4_method_3_code
def yX2_isUnder : MethodName := ⟨RX2, "isUnder", "(II)Z"⟩
abbrev cX2_fed : ByteArray := prog_4_method_4_code
def yX2_fed : MethodName := ⟨RX2, "fed", "(IIIII)I"⟩
abbrev cX2_toll : ByteArray := prog_4_method_5_code
def yX2_toll : MethodName := ⟨RX2, "toll", "(IIIII)I"⟩
abbrev cX2_signs : ByteArray := prog_4_method_6_code
def yX2_signs : MethodName := ⟨RX2, "signs", "(IZZZ)Z"⟩
def RX3 : String := "MenuIsATreaty$Menus"
def TX3 : u_T := fun k => match k with
  | 0 => ("MenuIsATreaty$Menus", "house", "LMenuIsATreaty$House;", true)
  | 1 => ("MenuIsATreaty$Menus", "cooking", "LMenuIsATreaty$Cooking;", true)
  | 2 => ("MenuIsATreaty$Menus", "stores", "[[I", true)
  | 3 => ("MenuIsATreaty$Menus", "barred", "I", false)
  | 4 => ("MenuIsATreaty$Menus", "best", "I", false)
  | 5 => ("MenuIsATreaty$Menus", "bestWorth", "I", false)
  | 6 => ("MenuIsATreaty$Menus", "feast", "I", false)
  | 7 => ("MenuIsATreaty$Menus", "feastFed", "I", false)
  | 8 => ("MenuIsATreaty$Menus", "peace", "I", false)
  | 9 => ("MenuIsATreaty$Menus", "peaceToll", "I", false)
  | _ => ("MenuIsATreaty$Menus", "peaceCount", "I", false)
def tyX3 : Nat → FieldType := fun k => match k with
  | 0 => .object "MenuIsATreaty$House"
  | 1 => .object "MenuIsATreaty$Cooking"
  | 2 => .array (.array .int)
  | 3 => .int
  | 4 => .int
  | 5 => .int
  | 6 => .int
  | 7 => .int
  | 8 => .int
  | 9 => .int
  | _ => .int
abbrev wsX30 : List Cond := u_ws RX3 TX3 11
theorem nmX3 : ∀ a, a < 11 → ∀ b, b < 11 → a ≠ b → (TX3 a).2.1 ≠ (TX3 b).2.1 := by decide +kernel
theorem tyX3_ok : ∀ k, k < 11 → parseFieldDescriptor (TX3 k).2.2.1 = some (tyX3 k) := by decide +kernel
abbrev cX3_init : ByteArray := prog_5_method_1_code
def yX3_init : MethodName := ⟨RX3, "<init>", "(LMenuIsATreaty$House;LMenuIsATreaty$Cooking;)V"⟩
abbrev cX3_seek : ByteArray := prog_5_method_2_code
def yX3_seek : MethodName := ⟨RX3, "seek", "(II)V"⟩
abbrev cX3_goThrough : ByteArray := prog_5_method_3_code
def yX3_goThrough : MethodName := ⟨RX3, "goThrough", "(IIIII)V"⟩
abbrev cX3_weigh : ByteArray := prog_5_method_4_code
def yX3_weigh : MethodName := ⟨RX3, "weigh", "(IIII)V"⟩
def RX4 : String := "MenuIsATreaty$Plan"
def TX4 : u_T := fun k => match k with
  | 0 => ("MenuIsATreaty$Plan", "house", "LMenuIsATreaty$House;", true)
  | 1 => ("MenuIsATreaty$Plan", "cooking", "LMenuIsATreaty$Cooking;", true)
  | 2 => ("MenuIsATreaty$Plan", "stores", "[I", true)
  | 3 => ("MenuIsATreaty$Plan", "fed", "I", false)
  | 4 => ("MenuIsATreaty$Plan", "fedAtFirst", "I", false)
  | 5 => ("MenuIsATreaty$Plan", "toll", "I", false)
  | _ => ("MenuIsATreaty$Plan", "failed", "I", false)
def tyX4 : Nat → FieldType := fun k => match k with
  | 0 => .object "MenuIsATreaty$House"
  | 1 => .object "MenuIsATreaty$Cooking"
  | 2 => .array .int
  | 3 => .int
  | 4 => .int
  | 5 => .int
  | _ => .int
abbrev wsX40 : List Cond := u_ws RX4 TX4 7
theorem nmX4 : ∀ a, a < 7 → ∀ b, b < 7 → a ≠ b → (TX4 a).2.1 ≠ (TX4 b).2.1 := by decide +kernel
theorem tyX4_ok : ∀ k, k < 7 → parseFieldDescriptor (TX4 k).2.2.1 = some (tyX4 k) := by decide +kernel
abbrev cX4_init : ByteArray := prog_6_method_1_code
def yX4_init : MethodName := ⟨RX4, "<init>", "(LMenuIsATreaty$House;LMenuIsATreaty$Cooking;)V"⟩
abbrev cX4_begin : ByteArray := prog_6_method_2_code
def yX4_begin : MethodName := ⟨RX4, "begin", "()V"⟩
abbrev cX4_goOn : ByteArray := prog_6_method_3_code
def yX4_goOn : MethodName := ⟨RX4, "goOn", "(II)Z"⟩
abbrev cX4_play : ByteArray := prog_6_method_4_code
def yX4_play : MethodName := ⟨RX4, "play", "(I)V"⟩
abbrev cX4_draw : ByteArray := prog_6_method_5_code
def yX4_draw : MethodName := ⟨RX4, "draw", "(I)I"⟩
def RX5 : String := "MenuIsATreaty$Reader"
def TX5 : u_T := fun k => match k with
  | 0 => ("MenuIsATreaty$Reader", "tape", "[I", true)
  | 1 => ("MenuIsATreaty$Reader", "size", "I", false)
  | 2 => ("MenuIsATreaty$Reader", "at", "I", false)
  | 3 => ("MenuIsATreaty$Reader", "token", "I", false)
  | 4 => ("MenuIsATreaty$Reader", "place", "I", false)
  | 5 => ("MenuIsATreaty$Reader", "code", "I", false)
  | _ => ("MenuIsATreaty$Reader", "fault", "I", false)
def tyX5 : Nat → FieldType := fun k => match k with
  | 0 => .array .int
  | 1 => .int
  | 2 => .int
  | 3 => .int
  | 4 => .int
  | 5 => .int
  | _ => .int
abbrev wsX50 : List Cond := u_ws RX5 TX5 7
theorem nmX5 : ∀ a, a < 7 → ∀ b, b < 7 → a ≠ b → (TX5 a).2.1 ≠ (TX5 b).2.1 := by decide +kernel
theorem tyX5_ok : ∀ k, k < 7 → parseFieldDescriptor (TX5 k).2.2.1 = some (tyX5 k) := by decide +kernel
abbrev cX5_init : ByteArray := prog_7_method_1_code
def yX5_init : MethodName := ⟨RX5, "<init>", "()V"⟩
abbrev cX5_append : ByteArray := prog_7_method_2_code
def yX5_append : MethodName := ⟨RX5, "append", "(I)Z"⟩
abbrev cX5_readInto : ByteArray := prog_7_method_3_code
def yX5_readInto : MethodName := ⟨RX5, "readInto", "(LMenuIsATreaty$Text;)I"⟩
abbrev cX5_fail : ByteArray := prog_7_method_4_code
def yX5_fail : MethodName := ⟨RX5, "fail", "()V"⟩
abbrev cX5_expect : ByteArray := prog_7_method_5_code
def yX5_expect : MethodName := ⟨RX5, "expect", "(I)V"⟩
abbrev cX5_readEither : ByteArray := prog_7_method_6_code
def yX5_readEither : MethodName := ⟨RX5, "readEither", "(LMenuIsATreaty$Text;I)V"⟩
abbrev cX5_readBoth : ByteArray := prog_7_method_7_code
def yX5_readBoth : MethodName := ⟨RX5, "readBoth", "(LMenuIsATreaty$Text;I)V"⟩
abbrev cX5_readNot : ByteArray := prog_7_method_8_code
def yX5_readNot : MethodName := ⟨RX5, "readNot", "(LMenuIsATreaty$Text;I)V"⟩
abbrev cX5_readSum : ByteArray := prog_7_method_9_code
def yX5_readSum : MethodName := ⟨RX5, "readSum", "(LMenuIsATreaty$Text;I)V"⟩
abbrev cX5_readTerm : ByteArray := prog_7_method_10_code
def yX5_readTerm : MethodName := ⟨RX5, "readTerm", "(LMenuIsATreaty$Text;I)V"⟩
abbrev cX5_readOne : ByteArray := prog_7_method_11_code
def yX5_readOne : MethodName := ⟨RX5, "readOne", "(LMenuIsATreaty$Text;I)V"⟩
abbrev cX5_advance : ByteArray := prog_7_method_12_code
def yX5_advance : MethodName := ⟨RX5, "advance", "()V"⟩
abbrev cX5_advanceNumber : ByteArray := prog_7_method_13_code
def yX5_advanceNumber : MethodName := ⟨RX5, "advanceNumber", "()V"⟩
abbrev cX5_advanceWord : ByteArray := prog_7_method_14_code
def yX5_advanceWord : MethodName := ⟨RX5, "advanceWord", "()V"⟩
abbrev cX5_isWord : ByteArray := prog_7_method_15_code
def yX5_isWord : MethodName := ⟨RX5, "isWord", "(Ljava/lang/String;)Z"⟩
abbrev cX5_isLetter : ByteArray := prog_7_method_16_code
def yX5_isLetter : MethodName := ⟨RX5, "isLetter", "(I)Z"⟩
abbrev cX5_isDigit : ByteArray := prog_7_method_17_code
def yX5_isDigit : MethodName := ⟨RX5, "isDigit", "(I)Z"⟩
abbrev cX5_isSign : ByteArray := prog_7_method_18_code
def yX5_isSign : MethodName := ⟨RX5, "isSign", "(I)Z"⟩
def RX6 : String := "MenuIsATreaty$Sheet"
def TX6 : u_T := fun k => match k with
  | 0 => ("MenuIsATreaty$Sheet", "sort", "I", false)
  | 1 => ("MenuIsATreaty$Sheet", "size", "I", false)
  | _ => ("MenuIsATreaty$Sheet", "items", "[I", true)
def tyX6 : Nat → FieldType := fun k => match k with
  | 0 => .int
  | 1 => .int
  | _ => .array .int
abbrev wsX60 : List Cond := u_ws RX6 TX6 3
theorem nmX6 : ∀ a, a < 3 → ∀ b, b < 3 → a ≠ b → (TX6 a).2.1 ≠ (TX6 b).2.1 := by decide +kernel
theorem tyX6_ok : ∀ k, k < 3 → parseFieldDescriptor (TX6 k).2.2.1 = some (tyX6 k) := by decide +kernel
abbrev cX6_init : ByteArray := prog_8_method_1_code
def yX6_init : MethodName := ⟨RX6, "<init>", "()V"⟩
abbrev cX6_isMissing : ByteArray := prog_8_method_2_code
def yX6_isMissing : MethodName := ⟨RX6, "isMissing", "()Z"⟩
abbrev cX6_become : ByteArray := prog_8_method_3_code
def yX6_become : MethodName := ⟨RX6, "become", "(II)V"⟩
abbrev cX6_hasItem : ByteArray := prog_8_method_4_code
def yX6_hasItem : MethodName := ⟨RX6, "hasItem", "(I)Z"⟩
abbrev cX6_hasRun : ByteArray := prog_8_method_5_code
def yX6_hasRun : MethodName := ⟨RX6, "hasRun", "(II)Z"⟩
abbrev cX6_put : ByteArray := prog_8_method_6_code
def yX6_put : MethodName := ⟨RX6, "put", "(II)V"⟩
def RX7 : String := "MenuIsATreaty$Text"
def TX7 : u_T := fun k => match k with
  | 0 => ("MenuIsATreaty$Text", "codes", "[I", true)
  | 1 => ("MenuIsATreaty$Text", "ends", "[I", true)
  | _ => ("MenuIsATreaty$Text", "size", "I", false)
def tyX7 : Nat → FieldType := fun k => match k with
  | 0 => .array .int
  | 1 => .array .int
  | _ => .int
abbrev wsX70 : List Cond := u_ws RX7 TX7 3
theorem nmX7 : ∀ a, a < 3 → ∀ b, b < 3 → a ≠ b → (TX7 a).2.1 ≠ (TX7 b).2.1 := by decide +kernel
theorem tyX7_ok : ∀ k, k < 3 → parseFieldDescriptor (TX7 k).2.2.1 = some (tyX7 k) := by decide +kernel
abbrev cX7_init : ByteArray := prog_9_method_1_code
def yX7_init : MethodName := ⟨RX7, "<init>", "()V"⟩
abbrev cX7_nameCode : ByteArray := prog_9_method_2_code
def yX7_nameCode : MethodName := ⟨RX7, "nameCode", "(I)I"⟩
abbrev cX7_clear : ByteArray := prog_9_method_3_code
def yX7_clear : MethodName := ⟨RX7, "clear", "()V"⟩
abbrev cX7_append : ByteArray := prog_9_method_4_code
def yX7_append : MethodName := ⟨RX7, "append", "(I)V"⟩
abbrev cX7_endSection : ByteArray := prog_9_method_5_code
def yX7_endSection : MethodName := ⟨RX7, "endSection", "(I)V"⟩
abbrev cX7_value : ByteArray := prog_9_method_6_code
def yX7_value : MethodName := ⟨RX7, "value", "(I[I[I)I"⟩
abbrev cX7_joined : ByteArray := prog_9_method_7_code
def yX7_joined : MethodName := ⟨RX7, "joined", "(III)I"⟩
def RX8 : String := "MenuIsATreaty"
def TX8 : u_T := fun k => match k with
  | 0 => ("MenuIsATreaty", "house", "LMenuIsATreaty$House;", true)
  | 1 => ("MenuIsATreaty", "imaged", "LMenuIsATreaty$House;", true)
  | 2 => ("MenuIsATreaty", "hasImage", "Z", false)
  | 3 => ("MenuIsATreaty", "texts", "[LMenuIsATreaty$Text;", true)
  | 4 => ("MenuIsATreaty", "textCount", "I", false)
  | 5 => ("MenuIsATreaty", "reader", "LMenuIsATreaty$Reader;", true)
  | 6 => ("MenuIsATreaty", "cooking", "LMenuIsATreaty$Cooking;", true)
  | 7 => ("MenuIsATreaty", "plan", "LMenuIsATreaty$Plan;", true)
  | 8 => ("MenuIsATreaty", "menus", "LMenuIsATreaty$Menus;", true)
  | _ => ("MenuIsATreaty", "sheets", "[LMenuIsATreaty$Sheet;", true)
def tyX8 : Nat → FieldType := fun k => match k with
  | 0 => .object "MenuIsATreaty$House"
  | 1 => .object "MenuIsATreaty$House"
  | 2 => .boolean
  | 3 => .array (.object "MenuIsATreaty$Text")
  | 4 => .int
  | 5 => .object "MenuIsATreaty$Reader"
  | 6 => .object "MenuIsATreaty$Cooking"
  | 7 => .object "MenuIsATreaty$Plan"
  | 8 => .object "MenuIsATreaty$Menus"
  | _ => .array (.object "MenuIsATreaty$Sheet")
abbrev wsX80 : List Cond := u_ws RX8 TX8 10
theorem nmX8 : ∀ a, a < 10 → ∀ b, b < 10 → a ≠ b → (TX8 a).2.1 ≠ (TX8 b).2.1 := by decide +kernel
theorem tyX8_ok : ∀ k, k < 10 → parseFieldDescriptor (TX8 k).2.2.1 = some (tyX8 k) := by decide +kernel
abbrev cX8_init : ByteArray := prog_1_method_1_code
def yX8_init : MethodName := ⟨RX8, "<init>", "()V"⟩
abbrev cX8_set : ByteArray := prog_1_method_2_code
def yX8_set : MethodName := ⟨RX8, "set", "(III)I"⟩
abbrev cX8_dish : ByteArray := prog_1_method_3_code
def yX8_dish : MethodName := ⟨RX8, "dish", "(III)I"⟩
abbrev cX8_told : ByteArray := prog_1_method_4_code
def yX8_told : MethodName := ⟨RX8, "told", "(II)I"⟩
abbrev cX8_asks : ByteArray := prog_1_method_5_code
def yX8_asks : MethodName := ⟨RX8, "asks", "(III)I"⟩
abbrev cX8_feed : ByteArray := prog_1_method_6_code
def yX8_feed : MethodName := ⟨RX8, "feed", "(I)I"⟩
abbrev cX8_text : ByteArray := prog_1_method_7_code
def yX8_text : MethodName := ⟨RX8, "text", "()I"⟩
abbrev cX8_force : ByteArray := prog_1_method_8_code
def yX8_force : MethodName := ⟨RX8, "force", "(I)I"⟩
abbrev cX8_cook : ByteArray := prog_1_method_9_code
def yX8_cook : MethodName := ⟨RX8, "cook", "(II)I"⟩
abbrev cX8_menu : ByteArray := prog_1_method_10_code
def yX8_menu : MethodName := ⟨RX8, "menu", "(II)I"⟩
abbrev cX8_serve : ByteArray := prog_1_method_11_code
def yX8_serve : MethodName := ⟨RX8, "serve", "(I)I"⟩
abbrev cX8_best : ByteArray := prog_1_method_12_code
def yX8_best : MethodName := ⟨RX8, "best", "(I)I"⟩
abbrev cX8_leave : ByteArray := prog_1_method_13_code
def yX8_leave : MethodName := ⟨RX8, "leave", "(I)I"⟩
abbrev cX8_buy : ByteArray := prog_1_method_14_code
def yX8_buy : MethodName := ⟨RX8, "buy", "(II)I"⟩
abbrev cX8_share : ByteArray := prog_1_method_15_code
def yX8_share : MethodName := ⟨RX8, "share", "(I)J"⟩
abbrev cX8_tells : ByteArray := prog_1_method_16_code
def yX8_tells : MethodName := ⟨RX8, "tells", "(III)I"⟩
abbrev cX8_film : ByteArray := prog_1_method_17_code
def yX8_film : MethodName := ⟨RX8, "film", "(II)I"⟩
abbrev cX8_drawn : ByteArray := prog_1_method_18_code
def yX8_drawn : MethodName := ⟨RX8, "drawn", "(I)I"⟩
abbrev cX8_chance : ByteArray := prog_1_method_19_code
def yX8_chance : MethodName := ⟨RX8, "chance", "(IIII)J"⟩
abbrev cX8_image : ByteArray := prog_1_method_20_code
def yX8_image : MethodName := ⟨RX8, "image", "()I"⟩
abbrev cX8_back : ByteArray := prog_1_method_21_code
def yX8_back : MethodName := ⟨RX8, "back", "()I"⟩
abbrev cX8_count : ByteArray := prog_1_method_22_code
def yX8_count : MethodName := ⟨RX8, "count", "(I)I"⟩
abbrev cX8_sheet : ByteArray := prog_1_method_23_code
def yX8_sheet : MethodName := ⟨RX8, "sheet", "(III)I"⟩
abbrev cX8_cell : ByteArray := prog_1_method_24_code
def yX8_cell : MethodName := ⟨RX8, "cell", "(III)I"⟩
abbrev cX8_copy : ByteArray := prog_1_method_25_code
def yX8_copy : MethodName := ⟨RX8, "copy", "(IIIII)I"⟩
abbrev cX8_dishes : ByteArray := prog_1_method_26_code
def yX8_dishes : MethodName := ⟨RX8, "dishes", "(IIII)I"⟩
abbrev cX8_taken : ByteArray := prog_1_method_27_code
def yX8_taken : MethodName := ⟨RX8, "taken", "(II)I"⟩
abbrev cX8_isKitchen : ByteArray := prog_1_method_28_code
def yX8_isKitchen : MethodName := ⟨RX8, "isKitchen", "(I)Z"⟩
abbrev cX8_isSheet : ByteArray := prog_1_method_29_code
def yX8_isSheet : MethodName := ⟨RX8, "isSheet", "(I)Z"⟩
abbrev cX8_isPlace : ByteArray := prog_1_method_30_code
def yX8_isPlace : MethodName := ⟨RX8, "isPlace", "(I)Z"⟩
abbrev cX8_placeOf : ByteArray := prog_1_method_31_code
def yX8_placeOf : MethodName := ⟨RX8, "placeOf", "(I)I"⟩
abbrev cX8_mostOf : ByteArray := prog_1_method_32_code
def yX8_mostOf : MethodName := ⟨RX8, "mostOf", "(I)I"⟩
abbrev cX8_toldOfKitchen : ByteArray := prog_1_method_33_code
def yX8_toldOfKitchen : MethodName := ⟨RX8, "toldOfKitchen", "(II)I"⟩
abbrev cX8_toldOfDish : ByteArray := prog_1_method_34_code
def yX8_toldOfDish : MethodName := ⟨RX8, "toldOfDish", "(II)I"⟩
abbrev cX8_isMenu : ByteArray := prog_1_method_35_code
def yX8_isMenu : MethodName := ⟨RX8, "isMenu", "(I)Z"⟩
abbrev cX8_sideOf : ByteArray := prog_1_method_36_code
def yX8_sideOf : MethodName := ⟨RX8, "sideOf", "(I)I"⟩
abbrev cX8_lowestTerms : ByteArray := prog_1_method_37_code
def yX8_lowestTerms : MethodName := ⟨RX8, "lowestTerms", "(III)J"⟩
abbrev cX8_guess : ByteArray := prog_1_method_38_code
def yX8_guess : MethodName := ⟨RX8, "guess", "(IIILMenuIsATreaty$Sheet;I)I"⟩
def RX9 : String := "MenuIsATreatyModel"
def TX9 : u_T := fun k => match k with
  | 0 => ("MenuIsATreatyModel", "thrown", "I", false)
  | 1 => ("MenuIsATreatyModel", "texts", "[I", true)
  | 2 => ("MenuIsATreatyModel", "textSize", "[I", true)
  | 3 => ("MenuIsATreatyModel", "textCount", "I", false)
  | 4 => ("MenuIsATreatyModel", "rule", "I", false)
  | 5 => ("MenuIsATreatyModel", "tape", "[I", true)
  | 6 => ("MenuIsATreatyModel", "taped", "I", false)
  | 7 => ("MenuIsATreatyModel", "hourNow", "I", false)
  | 8 => ("MenuIsATreatyModel", "store", "[I", true)
  | 9 => ("MenuIsATreatyModel", "prides", "[I", true)
  | 10 => ("MenuIsATreatyModel", "kinds", "[I", true)
  | 11 => ("MenuIsATreatyModel", "rows", "[I", true)
  | 12 => ("MenuIsATreatyModel", "many", "I", false)
  | 13 => ("MenuIsATreatyModel", "ofPart", "I", false)
  | 14 => ("MenuIsATreatyModel", "ofMuch", "I", false)
  | 15 => ("MenuIsATreatyModel", "ofKitchen", "I", false)
  | 16 => ("MenuIsATreatyModel", "ofHour", "I", false)
  | 17 => ("MenuIsATreatyModel", "ofNumber", "I", false)
  | 18 => ("MenuIsATreatyModel", "ofPride", "I", false)
  | 19 => ("MenuIsATreatyModel", "from", "I", false)
  | 20 => ("MenuIsATreatyModel", "size", "I", false)
  | 21 => ("MenuIsATreatyModel", "here", "I", false)
  | 22 => ("MenuIsATreatyModel", "token", "I", false)
  | 23 => ("MenuIsATreatyModel", "tokenAt", "I", false)
  | 24 => ("MenuIsATreatyModel", "tokenWorth", "J", false)
  | 25 => ("MenuIsATreatyModel", "open", "I", false)
  | 26 => ("MenuIsATreatyModel", "bad", "Z", false)
  | 27 => ("MenuIsATreatyModel", "fault", "I", false)
  | 28 => ("MenuIsATreatyModel", "storeWas", "[I", true)
  | 29 => ("MenuIsATreatyModel", "chosen", "[I", true)
  | 30 => ("MenuIsATreatyModel", "fed", "I", false)
  | 31 => ("MenuIsATreatyModel", "tolled", "I", false)
  | 32 => ("MenuIsATreatyModel", "bestDigits", "I", false)
  | 33 => ("MenuIsATreatyModel", "bestValue", "I", false)
  | 34 => ("MenuIsATreatyModel", "bestFed", "I", false)
  | 35 => ("MenuIsATreatyModel", "bestFed0", "I", false)
  | 36 => ("MenuIsATreatyModel", "bestSide", "I", false)
  | 37 => ("MenuIsATreatyModel", "without", "I", false)
  | 38 => ("MenuIsATreatyModel", "asides", "[I", true)
  | 39 => ("MenuIsATreatyModel", "storeKept", "[I", true)
  | 40 => ("MenuIsATreatyModel", "pridesKept", "[I", true)
  | 41 => ("MenuIsATreatyModel", "rowsKept", "[I", true)
  | 42 => ("MenuIsATreatyModel", "manyKept", "I", false)
  | 43 => ("MenuIsATreatyModel", "hourKept", "I", false)
  | 44 => ("MenuIsATreatyModel", "ruleKept", "I", false)
  | 45 => ("MenuIsATreatyModel", "isThere", "[Z", true)
  | 46 => ("MenuIsATreatyModel", "sorts", "[I", true)
  | 47 => ("MenuIsATreatyModel", "sheetSize", "[I", true)
  | _ => ("MenuIsATreatyModel", "items", "[I", true)
def tyX9 : Nat → FieldType := fun k => match k with
  | 0 => .int
  | 1 => .array .int
  | 2 => .array .int
  | 3 => .int
  | 4 => .int
  | 5 => .array .int
  | 6 => .int
  | 7 => .int
  | 8 => .array .int
  | 9 => .array .int
  | 10 => .array .int
  | 11 => .array .int
  | 12 => .int
  | 13 => .int
  | 14 => .int
  | 15 => .int
  | 16 => .int
  | 17 => .int
  | 18 => .int
  | 19 => .int
  | 20 => .int
  | 21 => .int
  | 22 => .int
  | 23 => .int
  | 24 => .long
  | 25 => .int
  | 26 => .boolean
  | 27 => .int
  | 28 => .array .int
  | 29 => .array .int
  | 30 => .int
  | 31 => .int
  | 32 => .int
  | 33 => .int
  | 34 => .int
  | 35 => .int
  | 36 => .int
  | 37 => .int
  | 38 => .array .int
  | 39 => .array .int
  | 40 => .array .int
  | 41 => .array .int
  | 42 => .int
  | 43 => .int
  | 44 => .int
  | 45 => .array .boolean
  | 46 => .array .int
  | 47 => .array .int
  | _ => .array .int
abbrev wsX90 : List Cond := u_ws RX9 TX9 49
theorem nmX9 : ∀ a, a < 49 → ∀ b, b < 49 → a ≠ b → (TX9 a).2.1 ≠ (TX9 b).2.1 := by decide +kernel
theorem tyX9_ok : ∀ k, k < 49 → parseFieldDescriptor (TX9 k).2.2.1 = some (tyX9 k) := by decide +kernel
abbrev cX9_in : ByteArray := prog_11_method_2_code
def yX9_in : MethodName := ⟨RX9, "in", "(JJJ)Z"⟩
abbrev cX9_within : ByteArray := prog_11_method_3_code
def yX9_within : MethodName := ⟨RX9, "within", "(III)I"⟩
abbrev cX9_init : ByteArray := prog_11_method_4_code
def yX9_init : MethodName := ⟨RX9, "<init>", "()V"⟩
abbrev cX9_spell : ByteArray := prog_11_method_5_code
def yX9_spell : MethodName := ⟨RX9, "spell", "(IIIIIIIII)V"⟩
abbrev cX9_isDish : ByteArray := prog_11_method_6_code
def yX9_isDish : MethodName := ⟨RX9, "isDish", "(I)Z"⟩
abbrev cX9_isKitchen : ByteArray := prog_11_method_7_code
def yX9_isKitchen : MethodName := ⟨RX9, "isKitchen", "(I)Z"⟩
abbrev cX9_isPart : ByteArray := prog_11_method_8_code
def yX9_isPart : MethodName := ⟨RX9, "isPart", "(I)Z"⟩
abbrev cX9_isOf : ByteArray := prog_11_method_9_code
def yX9_isOf : MethodName := ⟨RX9, "isOf", "(II)Z"⟩
abbrev cX9_mostOf : ByteArray := prog_11_method_10_code
def yX9_mostOf : MethodName := ⟨RX9, "mostOf", "(I)I"⟩
abbrev cX9_set : ByteArray := prog_11_method_11_code
def yX9_set : MethodName := ⟨RX9, "set", "(III)I"⟩
abbrev cX9_lays : ByteArray := prog_11_method_12_code
def yX9_lays : MethodName := ⟨RX9, "lays", "(III)V"⟩
abbrev cX9_dish : ByteArray := prog_11_method_13_code
def yX9_dish : MethodName := ⟨RX9, "dish", "(III)I"⟩
abbrev cX9_told : ByteArray := prog_11_method_14_code
def yX9_told : MethodName := ⟨RX9, "told", "(II)I"⟩
abbrev cX9_needsOf : ByteArray := prog_11_method_15_code
def yX9_needsOf : MethodName := ⟨RX9, "needsOf", "(II)I"⟩
abbrev cX9_needsAll : ByteArray := prog_11_method_16_code
def yX9_needsAll : MethodName := ⟨RX9, "needsAll", "(I)I"⟩
abbrev cX9_storeOf : ByteArray := prog_11_method_17_code
def yX9_storeOf : MethodName := ⟨RX9, "storeOf", "(I)I"⟩
abbrev cX9_feed : ByteArray := prog_11_method_18_code
def yX9_feed : MethodName := ⟨RX9, "feed", "(I)I"⟩
abbrev cX9_byteAt : ByteArray := prog_11_method_19_code
def yX9_byteAt : MethodName := ⟨RX9, "byteAt", "(I)I"⟩
abbrev cX9_next : ByteArray := prog_11_method_20_code
def yX9_next : MethodName := ⟨RX9, "next", "()V"⟩
abbrev cX9_fail : ByteArray := prog_11_method_21_code
def yX9_fail : MethodName := ⟨RX9, "fail", "()V"⟩
abbrev cX9_isLetter : ByteArray := prog_11_method_22_code
def yX9_isLetter : MethodName := ⟨RX9, "isLetter", "(II)Z"⟩
abbrev cX9_isWord : ByteArray := prog_11_method_23_code
def yX9_isWord : MethodName := ⟨RX9, "isWord", "(IIIIIIII)Z"⟩
abbrev cX9_isSign : ByteArray := prog_11_method_24_code
def yX9_isSign : MethodName := ⟨RX9, "isSign", "(I)Z"⟩
abbrev cX9_opens : ByteArray := prog_11_method_25_code
def yX9_opens : MethodName := ⟨RX9, "opens", "()Z"⟩
abbrev cX9_name : ByteArray := prog_11_method_26_code
def yX9_name : MethodName := ⟨RX9, "name", "()I"⟩
abbrev cX9_atom : ByteArray := prog_11_method_27_code
def yX9_atom : MethodName := ⟨RX9, "atom", "()I"⟩
abbrev cX9_term : ByteArray := prog_11_method_28_code
def yX9_term : MethodName := ⟨RX9, "term", "()I"⟩
abbrev cX9_added : ByteArray := prog_11_method_29_code
def yX9_added : MethodName := ⟨RX9, "added", "()I"⟩
abbrev cX9_not : ByteArray := prog_11_method_30_code
def yX9_not : MethodName := ⟨RX9, "not", "()I"⟩
abbrev cX9_both : ByteArray := prog_11_method_31_code
def yX9_both : MethodName := ⟨RX9, "both", "()I"⟩
abbrev cX9_either : ByteArray := prog_11_method_32_code
def yX9_either : MethodName := ⟨RX9, "either", "()I"⟩
abbrev cX9_part : ByteArray := prog_11_method_33_code
def yX9_part : MethodName := ⟨RX9, "part", "(Z)I"⟩
abbrev cX9_read : ByteArray := prog_11_method_34_code
def yX9_read : MethodName := ⟨RX9, "read", "(II)I"⟩
abbrev cX9_text : ByteArray := prog_11_method_35_code
def yX9_text : MethodName := ⟨RX9, "text", "()I"⟩
abbrev cX9_force : ByteArray := prog_11_method_36_code
def yX9_force : MethodName := ⟨RX9, "force", "(I)I"⟩
abbrev cX9_says : ByteArray := prog_11_method_37_code
def yX9_says : MethodName := ⟨RX9, "says", "(IIIII)I"⟩
abbrev cX9_feedsOf : ByteArray := prog_11_method_38_code
def yX9_feedsOf : MethodName := ⟨RX9, "feedsOf", "(II)I"⟩
abbrev cX9_crossOf : ByteArray := prog_11_method_39_code
def yX9_crossOf : MethodName := ⟨RX9, "crossOf", "(III)I"⟩
abbrev cX9_tollPart : ByteArray := prog_11_method_40_code
def yX9_tollPart : MethodName := ⟨RX9, "tollPart", "(IIII)I"⟩
abbrev cX9_tollOf : ByteArray := prog_11_method_41_code
def yX9_tollOf : MethodName := ⟨RX9, "tollOf", "(II)I"⟩
abbrev cX9_signsAt : ByteArray := prog_11_method_42_code
def yX9_signsAt : MethodName := ⟨RX9, "signsAt", "(IIII)Z"⟩
abbrev cX9_canBe : ByteArray := prog_11_method_43_code
def yX9_canBe : MethodName := ⟨RX9, "canBe", "(II)Z"⟩
abbrev cX9_isRatified : ByteArray := prog_11_method_44_code
def yX9_isRatified : MethodName := ⟨RX9, "isRatified", "(II)Z"⟩
abbrev cX9_crossAll : ByteArray := prog_11_method_45_code
def yX9_crossAll : MethodName := ⟨RX9, "crossAll", "(II)I"⟩
abbrev cX9_asks : ByteArray := prog_11_method_46_code
def yX9_asks : MethodName := ⟨RX9, "asks", "(III)I"⟩
abbrev cX9_isCooked : ByteArray := prog_11_method_47_code
def yX9_isCooked : MethodName := ⟨RX9, "isCooked", "(II)Z"⟩
abbrev cX9_uses : ByteArray := prog_11_method_48_code
def yX9_uses : MethodName := ⟨RX9, "uses", "(II)V"⟩
abbrev cX9_counts : ByteArray := prog_11_method_49_code
def yX9_counts : MethodName := ⟨RX9, "counts", "(I)V"⟩
abbrev cX9_cook : ByteArray := prog_11_method_50_code
def yX9_cook : MethodName := ⟨RX9, "cook", "(II)I"⟩
abbrev cX9_laysAside : ByteArray := prog_11_method_51_code
def yX9_laysAside : MethodName := ⟨RX9, "laysAside", "()V"⟩
abbrev cX9_laysBack : ByteArray := prog_11_method_52_code
def yX9_laysBack : MethodName := ⟨RX9, "laysBack", "()V"⟩
abbrev cX9_isMenu : ByteArray := prog_11_method_53_code
def yX9_isMenu : MethodName := ⟨RX9, "isMenu", "(I)Z"⟩
abbrev cX9_cooksAll : ByteArray := prog_11_method_54_code
def yX9_cooksAll : MethodName := ⟨RX9, "cooksAll", "()I"⟩
abbrev cX9_menu : ByteArray := prog_11_method_55_code
def yX9_menu : MethodName := ⟨RX9, "menu", "(II)I"⟩
abbrev cX9_serve : ByteArray := prog_11_method_56_code
def yX9_serve : MethodName := ⟨RX9, "serve", "(I)I"⟩
abbrev cX9_menus : ByteArray := prog_11_method_57_code
def yX9_menus : MethodName := ⟨RX9, "menus", "(IIIIIII)V"⟩
abbrev cX9_bestOf : ByteArray := prog_11_method_58_code
def yX9_bestOf : MethodName := ⟨RX9, "bestOf", "(II)V"⟩
abbrev cX9_dishesOf : ByteArray := prog_11_method_59_code
def yX9_dishesOf : MethodName := ⟨RX9, "dishesOf", "(I)I"⟩
abbrev cX9_best : ByteArray := prog_11_method_60_code
def yX9_best : MethodName := ⟨RX9, "best", "(I)I"⟩
abbrev cX9_leave : ByteArray := prog_11_method_61_code
def yX9_leave : MethodName := ⟨RX9, "leave", "(I)I"⟩
abbrev cX9_buy : ByteArray := prog_11_method_62_code
def yX9_buy : MethodName := ⟨RX9, "buy", "(II)I"⟩
abbrev cX9_lowest : ByteArray := prog_11_method_63_code
def yX9_lowest : MethodName := ⟨RX9, "lowest", "(JJI)J"⟩
abbrev cX9_share : ByteArray := prog_11_method_64_code
def yX9_share : MethodName := ⟨RX9, "share", "(I)J"⟩
abbrev cX9_worthIn : ByteArray := prog_11_method_65_code
def yX9_worthIn : MethodName := ⟨RX9, "worthIn", "(II)I"⟩
abbrev cX9_firstOther : ByteArray := prog_11_method_66_code
def yX9_firstOther : MethodName := ⟨RX9, "firstOther", "(II)I"⟩
abbrev cX9_likeSet : ByteArray := prog_11_method_67_code
def yX9_likeSet : MethodName := ⟨RX9, "likeSet", "(I)I"⟩
abbrev cX9_tells : ByteArray := prog_11_method_68_code
def yX9_tells : MethodName := ⟨RX9, "tells", "(III)I"⟩
abbrev cX9_film : ByteArray := prog_11_method_69_code
def yX9_film : MethodName := ⟨RX9, "film", "(II)I"⟩
abbrev cX9_worthDrawn : ByteArray := prog_11_method_70_code
def yX9_worthDrawn : MethodName := ⟨RX9, "worthDrawn", "(I)I"⟩
abbrev cX9_drawn : ByteArray := prog_11_method_71_code
def yX9_drawn : MethodName := ⟨RX9, "drawn", "(I)I"⟩
abbrev cX9_chance : ByteArray := prog_11_method_72_code
def yX9_chance : MethodName := ⟨RX9, "chance", "(IIII)J"⟩
abbrev cX9_image : ByteArray := prog_11_method_73_code
def yX9_image : MethodName := ⟨RX9, "image", "()I"⟩
abbrev cX9_back : ByteArray := prog_11_method_74_code
def yX9_back : MethodName := ⟨RX9, "back", "()I"⟩
abbrev cX9_count : ByteArray := prog_11_method_75_code
def yX9_count : MethodName := ⟨RX9, "count", "(I)I"⟩
abbrev cX9_isSheet : ByteArray := prog_11_method_76_code
def yX9_isSheet : MethodName := ⟨RX9, "isSheet", "(I)Z"⟩
abbrev cX9_sheet : ByteArray := prog_11_method_77_code
def yX9_sheet : MethodName := ⟨RX9, "sheet", "(III)I"⟩
abbrev cX9_cell : ByteArray := prog_11_method_78_code
def yX9_cell : MethodName := ⟨RX9, "cell", "(III)I"⟩
abbrev cX9_copy : ByteArray := prog_11_method_79_code
def yX9_copy : MethodName := ⟨RX9, "copy", "(IIIII)I"⟩
abbrev cX9_dishes : ByteArray := prog_11_method_80_code
def yX9_dishes : MethodName := ⟨RX9, "dishes", "(IIII)I"⟩
abbrev cX9_over : ByteArray := prog_11_method_81_code
def yX9_over : MethodName := ⟨RX9, "over", "(I)I"⟩
abbrev cX9_taken : ByteArray := prog_11_method_82_code
def yX9_taken : MethodName := ⟨RX9, "taken", "(II)I"⟩
def RJ9 : String := "java/lang/Math"
def TJ9 : u_T := fun k => match k with
  | _ => ("", "", "", false)
def tyJ9 : Nat → FieldType := fun k => match k with
  | _ => .int
abbrev wsJ90 : List Cond := u_ws RJ9 TJ9 0
theorem nmJ9 : ∀ a, a < 0 → ∀ b, b < 0 → a ≠ b → (TJ9 a).2.1 ≠ (TJ9 b).2.1 := by decide +kernel
theorem tyJ9_ok : ∀ k, k < 0 → parseFieldDescriptor (TJ9 k).2.2.1 = some (tyJ9 k) := by decide +kernel
abbrev cJ9_max_7cf53 : ByteArray := prog_12_method_65_code
def yJ9_max_7cf53 : MethodName := ⟨RJ9, "max", "(II)I"⟩
abbrev cJ9_min_7cf53 : ByteArray := prog_12_method_69_code
def yJ9_min_7cf53 : MethodName := ⟨RJ9, "min", "(II)I"⟩
def RJ0 : String := "java/lang/String"
def TJ0 : u_T := fun k => match k with
  | _ => ("", "", "", false)
def tyJ0 : Nat → FieldType := fun k => match k with
  | _ => .int
abbrev wsJ00 : List Cond := u_ws RJ0 TJ0 0
theorem nmJ0 : ∀ a, a < 0 → ∀ b, b < 0 → a ≠ b → (TJ0 a).2.1 ≠ (TJ0 b).2.1 := by decide +kernel
theorem tyJ0_ok : ∀ k, k < 0 → parseFieldDescriptor (TJ0 k).2.2.1 = some (tyJ0 k) := by decide +kernel
abbrev cJ0_length_8abf5 : ByteArray := prog_13_method_54_code
def yJ0_length_8abf5 : MethodName := ⟨RJ0, "length", "()I"⟩
abbrev cJ0_charAt_5068e : ByteArray := prog_13_method_56_code
def yJ0_charAt_5068e : MethodName := ⟨RJ0, "charAt", "(I)C"⟩
abbrev cJ0_coder_7d493 : ByteArray := prog_13_method_152_code
def yJ0_coder_7d493 : MethodName := ⟨RJ0, "coder", "()B"⟩
abbrev cJ0_isLatin1_aae02 : ByteArray := prog_13_method_154_code
def yJ0_isLatin1_aae02 : MethodName := ⟨RJ0, "isLatin1", "()Z"⟩
abbrev cJ0_checkIndex_df160 : ByteArray := prog_13_method_155_code
def yJ0_checkIndex_df160 : MethodName := ⟨RJ0, "checkIndex", "(II)V"⟩
def RJ1 : String := "java/lang/StringLatin1"
def TJ1 : u_T := fun k => match k with
  | _ => ("", "", "", false)
def tyJ1 : Nat → FieldType := fun k => match k with
  | _ => .int
abbrev wsJ10 : List Cond := u_ws RJ1 TJ1 0
theorem nmJ1 : ∀ a, a < 0 → ∀ b, b < 0 → a ≠ b → (TJ1 a).2.1 ≠ (TJ1 b).2.1 := by decide +kernel
theorem tyJ1_ok : ∀ k, k < 0 → parseFieldDescriptor (TJ1 k).2.2.1 = some (tyJ1 k) := by decide +kernel
abbrev cJ1_charAt_3b067 : ByteArray := prog_14_method_2_code
def yJ1_charAt_3b067 : MethodName := ⟨RJ1, "charAt", "([BI)C"⟩
def RJ2 : String := "java/lang/StringUTF16"
def TJ2 : u_T := fun k => match k with
  | _ => ("", "", "", false)
def tyJ2 : Nat → FieldType := fun k => match k with
  | _ => .int
abbrev wsJ20 : List Cond := u_ws RJ2 TJ2 0
theorem nmJ2 : ∀ a, a < 0 → ∀ b, b < 0 → a ≠ b → (TJ2 a).2.1 ≠ (TJ2 b).2.1 := by decide +kernel
theorem tyJ2_ok : ∀ k, k < 0 → parseFieldDescriptor (TJ2 k).2.2.1 = some (tyJ2 k) := by decide +kernel
abbrev cJ2_getChar_3b067 : ByteArray := prog_15_method_5_code
def yJ2_getChar_3b067 : MethodName := ⟨RJ2, "getChar", "([BI)C"⟩
abbrev cJ2_length_9d52b : ByteArray := prog_15_method_6_code
def yJ2_length_9d52b : MethodName := ⟨RJ2, "length", "([B)I"⟩
abbrev cJ2_charAt_3b067 : ByteArray := prog_15_method_83_code
def yJ2_charAt_3b067 : MethodName := ⟨RJ2, "charAt", "([BI)C"⟩
abbrev cJ2_checkIndex_2214a : ByteArray := prog_15_method_91_code
def yJ2_checkIndex_2214a : MethodName := ⟨RJ2, "checkIndex", "(I[B)V"⟩
def RJ10 : String := "java/lang/System"
def TJ10 : u_T := fun k => match k with
  | _ => ("", "", "", false)
def tyJ10 : Nat → FieldType := fun k => match k with
  | _ => .int
abbrev wsJ100 : List Cond := u_ws RJ10 TJ10 0
theorem nmJ10 : ∀ a, a < 0 → ∀ b, b < 0 → a ≠ b → (TJ10 a).2.1 ≠ (TJ10 b).2.1 := by decide +kernel
theorem tyJ10_ok : ∀ k, k < 0 → parseFieldDescriptor (TJ10 k).2.2.1 = some (tyJ10 k) := by decide +kernel
def RJ3 : String := "jdk/internal/util/Preconditions"
def TJ3 : u_T := fun k => match k with
  | _ => ("", "", "", false)
def tyJ3 : Nat → FieldType := fun k => match k with
  | _ => .int
abbrev wsJ30 : List Cond := u_ws RJ3 TJ3 0
theorem nmJ3 : ∀ a, a < 0 → ∀ b, b < 0 → a ≠ b → (TJ3 a).2.1 ≠ (TJ3 b).2.1 := by decide +kernel
theorem tyJ3_ok : ∀ k, k < 0 → parseFieldDescriptor (TJ3 k).2.2.1 = some (tyJ3 k) := by decide +kernel
abbrev cJ3_checkIndex_8e157 : ByteArray := prog_17_method_11_code
def yJ3_checkIndex_8e157 : MethodName := ⟨RJ3, "checkIndex", "(IILjava/util/function/BiFunction;)I"⟩
def RL : String := "MenuIsATreatyLaw"
abbrev cL_law : ByteArray := code
def yL_law : MethodName := ⟨RL, "law", "([I)Z"⟩
abbrev vwCl : List vw_C := [(RX0, TX0, 16), (RX1, TX1, 9), (RX3, TX3, 11), (RX4, TX4, 7), (RX5, TX5, 7), (RX6, TX6, 3), (RX7, TX7, 3), (RX8, TX8, 10), (RX9, TX9, 49)]
end
section

/-! PURE: what the methods compute over a memory (place, index) -/
abbrev Mem : Type := Nat → Nat → Int32
/-- the memory with v at (p, k) -/
def mu (M : Mem) (p k : Nat) (v : Int32) : Mem := fun q => if q = p then upd (M p) k v else M q
/-- n numbers of place a from i on copied to place b from j on -/
def mcp (M : Mem) (a i b j n : Nat) : Mem := fun q => if q = b then va_cpy (M a) (M b) i j n else M q
def ck {α : Type} (b : Bool) (x : Option α) : Option α := if b = true then x else none
def inb (i : Int32) (n : Nat) : Bool := decide (¬ i < 0) && decide (i.toNatClampNeg < n)
def zb (x : Int32) : Bool := x == 0 || x == 1
def cpk (i : Int32) (na : Nat) (j : Int32) (nb : Nat) (n : Int32) : Bool := decide (¬ i < 0) && decide (¬ j < 0) && decide (¬ n < 0) && decide (i.toNatClampNeg + n.toNatClampNeg ≤ na) && decide (j.toNatClampNeg + n.toNatClampNeg ≤ nb)
def jrem (x y : Int32) : Int32 := x - x / y * y
def jlrem (x y : Int64) : Int64 := x - x / y * y
def jshl (x y : Int32) : Int32 := x <<< (y &&& 31)
def jushr (x y : Int32) : Int32 := (x.toUInt32 >>> (y.toUInt32 &&& Int32.toUInt32 31)).toInt32
def jmax (x y : Int32) : Int32 := if x < y then y else x
def jmin (x y : Int32) : Int32 := if y < x then y else x
def FU : Nat := 2000
def DP : Nat := 100
/-- the kind of a place (99: none) -/
def kd (p : Nat) : Nat := if p < 100 then ([7, 1, 10, 10, 10, 10, 10, 10, 1, 10, 10, 10, 10, 10, 10, 12, 6, 30, 30, 6, 30, 30, 6, 30, 30, 6, 30, 30, 6, 30, 30, 6, 30, 30, 4, 30, 0, 10, 10, 10, 10, 10, 11, 3, 10, 2, 14, 10, 10, 10, 10, 10, 10, 10, 13, 5, 10, 5, 10, 5, 10, 5, 10] : List Nat).getD p 99 else ([8, 20, 20, 20, 20, 20, 20, 20, 20, 20, 20, 20, 20, 20, 21, 20, 20, 20] : List Nat).getD (p - 100) 99
/-- how long the row at a place is -/
def ln (p : Nat) : Nat := if p < 100 then ([0, 0, 12, 2, 6, 6, 6, 6, 0, 12, 2, 6, 6, 6, 6, 6, 0, 160, 3, 0, 160, 3, 0, 160, 3, 0, 160, 3, 0, 160, 3, 0, 160, 3, 0, 160, 0, 2, 6, 6, 160, 6, 2, 0, 12, 0, 7, 12, 12, 12, 12, 12, 12, 12, 4, 0, 40, 0, 40, 0, 40, 0, 40] : List Nat).getD p 0 else ([0, 960, 6, 160, 12, 2, 6, 18, 12, 6, 72, 12, 2, 18, 4, 4, 4, 160] : List Nat).getD (p - 100) 0
def strs : List (List Nat) := [[112, 97, 114, 116], [109, 117, 99, 104], [107, 105, 116, 99, 104, 101, 110], [104, 111, 117, 114], [110, 117, 109, 98, 101, 114], [112, 114, 105, 100, 101], [102, 101, 101, 100, 115], [116, 111, 108, 108, 115], [115, 105, 103, 110, 115], [111, 114], [97, 110, 100], [110, 111, 116], [102, 101, 101, 100, 115, 32, 109, 117, 99, 104, 32, 42, 32, 50, 32, 59, 32, 116, 111, 108, 108, 115, 32, 109, 117, 99, 104, 32, 59, 32, 115, 105, 103, 110, 115, 32, 49, 32, 59]]
def isStr (q : Nat) : Bool := decide (1000 ≤ q) && decide (q < 1000 + strs.length)
def slenN (q : Nat) : Nat := (strs.getD (q - 1000) []).length
def slen (q : Nat) : Int32 := Int32.ofNat (slenN q)
def schar (q j : Nat) : Int32 := Int32.ofNat ((strs.getD (q - 1000) []).getD j 0)
/-- the two constant rows: the powers of ten, and the kinds above -/
def stv (q j : Nat) : Int32 := if q = 2000 then ([100000, 10000, 1000, 100, 10, 1] : List Int32).getD j 0 else ([-1, 0, 0, 1, 2, 0] : List Int32).getD j 0
end
section
/-! PURE: the class -/
def f_X8_isPlace (v0 : Int32) (M : Mem) : Option (Int32 × Mem) :=
  (if v0 < 0 then some (0, M) else (if 2 ≤ (v0 / 10) then some (0, M) else (if 6 ≤ (jrem v0 10) then some (0, M) else some (1, M))))

def f_X8_placeOf (v0 : Int32) (M : Mem) : Option (Int32 × Mem) :=
  some ((((v0 / 10) * 6) + (jrem v0 10)), M)

def f_X8_isKitchen (v0 : Int32) (M : Mem) : Option (Int32 × Mem) :=
  (if v0 < 0 then some (0, M) else (if 2 ≤ v0 then some (0, M) else some (1, M)))

def f_X1_storeOf_l4 : Nat → Int32 → Int32 → Int32 → Mem → Option (Int32 × Mem)
  | 0, _, _, _, _ => none
  | n + 1, v1, v2, v3, M => (if 6 ≤ v3 then some (v2, M) else ck (inb ((v1 * 6) + v3) 12) ((f_X1_storeOf_l4 n) v1 (v2 + (M 2 (((v1 * 6) + v3)).toNatClampNeg)) (v3 + 1) M))
def f_X1_storeOf (v1 : Int32) (M : Mem) : Option (Int32 × Mem) :=
  (f_X1_storeOf_l4 FU) v1 0 0 M

def f_X8_toldOfKitchen (v1 : Int32) (v2 : Int32) (M : Mem) : Option (Int32 × Mem) :=
  (if v2 = 2 then ck (inb v1 2) (some ((M 3 (v1).toNatClampNeg), M)) else (f_X1_storeOf v1 M).bind fun o2 => some (o2.1, o2.2))

def f_X1_hasDish (v1 : Int32) (M : Mem) : Option (Int32 × Mem) :=
  (if v1 < 0 then some (0, M) else (if (M 1 6) ≤ v1 then some (0, M) else some (1, M)))

def f_X1_needsOf (v1 : Int32) (v2 : Int32) (M : Mem) : Option (Int32 × Mem) :=
  ck (inb v1 6) (ck (inb v2 6) (ck (!((stv 2000 (v2).toNatClampNeg) == 0)) (some ((jrem ((M 6 (v1).toNatClampNeg) / (stv 2000 (v2).toNatClampNeg)) 10), M))))

def f_X1_needsTogether_l4 : Nat → Int32 → Int32 → Int32 → Mem → Option (Int32 × Mem)
  | 0, _, _, _, _ => none
  | n + 1, v1, v2, v3, M => (if 6 ≤ v3 then some (v2, M) else (f_X1_needsOf v1 v3 M).bind fun o2 => (f_X1_needsTogether_l4 n) v1 (v2 + o2.1) (v3 + 1) o2.2)
def f_X1_needsTogether (v1 : Int32) (M : Mem) : Option (Int32 × Mem) :=
  (f_X1_needsTogether_l4 FU) v1 0 0 M

def f_X8_toldOfDish (v1 : Int32) (v2 : Int32) (M : Mem) : Option (Int32 × Mem) :=
  (if v2 = 3 then ck (inb v1 6) (some ((M 5 (v1).toNatClampNeg), M)) else (if v2 = 4 then ck (inb v1 6) (some ((M 6 (v1).toNatClampNeg), M)) else (if v2 = 5 then ck (inb v1 6) (some ((M 4 (v1).toNatClampNeg), M)) else (if v2 = 6 then ck (inb v1 6) (some ((M 7 (v1).toNatClampNeg), M)) else (if v2 = 7 then (f_X1_needsTogether v1 M).bind fun o10 => some (o10.1, o10.2) else some ((-1000), M))))))

def f_X8_told_b54 (v1 : Int32) (v2 : Int32) (M : Mem) : Option (Int32 × Mem) :=
  (f_X8_isKitchen v1 M).bind fun o16 => (if o16.1 = 0 then some ((-1000), o16.2) else (f_X8_toldOfKitchen v1 v2 o16.2).bind fun o19 => some (o19.1, o19.2))
def f_X8_told (v1 : Int32) (v2 : Int32) (M : Mem) : Option (Int32 × Mem) :=
  (if v2 = 0 then some ((M 1 7), M) else (if v2 = 1 then (f_X8_isPlace v1 M).bind fun o10 => (if o10.1 = 0 then some ((-1000), o10.2) else (f_X8_placeOf v1 o10.2).bind fun o13 => ck (inb o13.1 12) (some ((o13.2 2 (o13.1).toNatClampNeg), o13.2))) else (if v2 = 2 then f_X8_told_b54 v1 v2 M else (if v2 = 8 then f_X8_told_b54 v1 v2 M else (f_X1_hasDish v1 M).bind fun o5 => (if o5.1 = 0 then some ((-1000), o5.2) else (f_X8_toldOfDish v1 v2 o5.2).bind fun o8 => some (o8.1, o8.2))))))

def f_X8_mostOf (v0 : Int32) (M : Mem) : Option (Int32 × Mem) :=
  (if v0 = 0 then some (999, M) else (if v0 = 1 then some (99, M) else (if v0 = 2 then some (99, M) else (if v0 = 3 then some (9, M) else some (999999, M)))))

def f_X8_set (v1 : Int32) (v2 : Int32) (v3 : Int32) (M : Mem) : Option (Int32 × Mem) :=
  (f_X8_told v2 v1 M).bind fun o1 => (if v1 < 0 then some ((-1000), o1.2) else (if 4 < v1 then some ((-1000), o1.2) else (if o1.1 = (-1000) then some ((-1000), o1.2) else (if v3 < 0 then some ((-1000), o1.2) else (f_X8_mostOf v1 o1.2).bind fun o7 => (if v3 ≤ o7.1 then (if v1 = 0 then some (o1.1, (mu o7.2 1 7 v3)) else (if v1 = 1 then (f_X8_placeOf v2 o7.2).bind fun o12 => ck (inb o12.1 12) (some (o1.1, (mu o12.2 2 (o12.1).toNatClampNeg v3))) else (if v1 = 2 then ck (inb v2 2) (some (o1.1, (mu o7.2 3 (v2).toNatClampNeg v3))) else (if v1 = 3 then ck (inb v2 6) (some (o1.1, (mu o7.2 5 (v2).toNatClampNeg v3))) else ck (inb v2 6) (some (o1.1, (mu o7.2 6 (v2).toNatClampNeg v3))))))) else some ((-1000), o7.2))))))

def f_X1_addDish (v1 : Int32) (v2 : Int32) (v3 : Int32) (M : Mem) : Option (Int32 × Mem) :=
  (if (M 1 6) < 6 then ck (inb (M 1 6) 6) (some ((((M 1 6) + 1) - 1), (mu (mu (mu (mu (mu M 4 ((M 1 6)).toNatClampNeg v1) 5 ((M 1 6)).toNatClampNeg v2) 6 ((M 1 6)).toNatClampNeg v3) 7 ((M 1 6)).toNatClampNeg 0) 1 6 ((M 1 6) + 1)))) else some ((-4), M))

def f_X8_dish (v1 : Int32) (v2 : Int32) (v3 : Int32) (M : Mem) : Option (Int32 × Mem) :=
  (if v1 < 0 then some ((-2), M) else (if 6 ≤ v1 then some ((-2), M) else (if v2 < 0 then some ((-2), M) else (if 9 < v2 then some ((-2), M) else (if v3 < 0 then some ((-2), M) else (if v3 ≤ 999999 then (f_X1_addDish v1 v2 v3 M).bind fun o7 => some (o7.1, o7.2) else some ((-2), M)))))))

def f_X0_ruleBy (v1 : Int32) (M : Mem) : Option Mem :=
  (if v1 < 0 then some M else (if 6 ≤ v1 then some M else ck (inb v1 6) (ck (decide ((16 + 3 * (v1).toNatClampNeg) < 63)) (some (mu M 36 1 (Int32.ofNat (16 + 3 * (v1).toNatClampNeg)))))))

def f_X0_takeUp_l30 (k53 : Int32 → Mem → Option Mem) : Nat → Int32 → Int32 → Mem → Option Mem
  | 0, _, _, _ => none
  | n + 1, v2, v3, M => (if 2 ≤ v3 then k53 v2 M else ck (inb v3 2) ((f_X0_takeUp_l30 k53 n) v2 (v3 + 1) (mu M 37 (v3).toNatClampNeg (M 3 (v3).toNatClampNeg))))
def f_X0_takeUp_l55 (k79 : Int32 → Mem → Option Mem) : Nat → Int32 → Int32 → Mem → Option Mem
  | 0, _, _, _ => none
  | n + 1, v2, v3, M => (if 6 ≤ v3 then k79 v2 M else (f_X1_needsOf v2 v3 M).bind fun o5 => ck (inb v3 6) ((f_X0_takeUp_l55 k79 n) v2 (v3 + 1) (mu o5.2 38 (v3).toNatClampNeg o5.1)))
def f_X0_takeUp_b79 (v2 : Int32) (M : Mem) : Option Mem :=
  (f_X1_needsTogether v2 M).bind fun o8 => (f_X0_ruleBy (o8.2 1 8) (mu o8.2 36 7 o8.1)).bind fun o10 => some o10
def f_X0_takeUp_b53 (v2 : Int32) (M : Mem) : Option Mem :=
  (f_X0_takeUp_l55 f_X0_takeUp_b79 FU) v2 0 M
def f_X0_takeUp (v2 : Int32) (M : Mem) : Option Mem :=
  ck (inb v2 6) ((f_X0_takeUp_l30 f_X0_takeUp_b53 FU) v2 0 (mu (mu (mu M 36 2 (M 4 (v2).toNatClampNeg)) 36 3 (M 5 (v2).toNatClampNeg)) 36 4 (M 1 7)))

def f_X0_cross_b104 (r : Nat → Int32 → Int32 → Int32 → Mem → Option Mem) (q2 : Nat) (v3 : Int32) (v4 : Int32) (v5 : Int32) (s1 : Int32) (M : Mem) : Option Mem :=
  ck (zb s1) (r q2 v3 v4 (v5 + 1) (mu M 36 12 s1))
def f_X0_cross_b103 (r : Nat → Int32 → Int32 → Int32 → Mem → Option Mem) (q2 : Nat) (v3 : Int32) (v4 : Int32) (v5 : Int32) (M : Mem) : Option Mem :=
  (f_X0_cross_b104 r) q2 v3 v4 v5 0 M
def f_X0_cross_l26 : Nat → Nat → Int32 → Int32 → Int32 → Mem → Option Mem
  | 0, _, _, _, _, _ => none
  | n + 1, q2, v3, v4, v5, M => (if 6 ≤ v5 then some M else ck (inb v5 6) (ck (kd q2 == 10) (ck (inb (v3 + v5) (ln q2)) ((if (M 36 12) = 0 then (f_X0_cross_b103 (f_X0_cross_l26 n)) q2 v3 v4 v5 (mu (mu M 41 (v5).toNatClampNeg (jmax 0 ((M 38 (v5).toNatClampNeg) - (M q2 ((v3 + v5)).toNatClampNeg)))) 36 13 ((M 36 13) + (jmax 0 ((M 38 (v5).toNatClampNeg) - (M q2 ((v3 + v5)).toNatClampNeg))))) else ck (inb (v4 + v5) (ln q2)) ((if ((mu (mu M 41 (v5).toNatClampNeg (jmax 0 ((M 38 (v5).toNatClampNeg) - (M q2 ((v3 + v5)).toNatClampNeg)))) 36 13 ((M 36 13) + (jmax 0 ((M 38 (v5).toNatClampNeg) - (M q2 ((v3 + v5)).toNatClampNeg))))) q2 ((v4 + v5)).toNatClampNeg) < (jmax 0 ((M 38 (v5).toNatClampNeg) - (M q2 ((v3 + v5)).toNatClampNeg))) then (f_X0_cross_b103 (f_X0_cross_l26 n)) q2 v3 v4 v5 (mu (mu M 41 (v5).toNatClampNeg (jmax 0 ((M 38 (v5).toNatClampNeg) - (M q2 ((v3 + v5)).toNatClampNeg)))) 36 13 ((M 36 13) + (jmax 0 ((M 38 (v5).toNatClampNeg) - (M q2 ((v3 + v5)).toNatClampNeg))))) else (f_X0_cross_b104 (f_X0_cross_l26 n)) q2 v3 v4 v5 1 (mu (mu M 41 (v5).toNatClampNeg (jmax 0 ((M 38 (v5).toNatClampNeg) - (M q2 ((v3 + v5)).toNatClampNeg)))) 36 13 ((M 36 13) + (jmax 0 ((M 38 (v5).toNatClampNeg) - (M q2 ((v3 + v5)).toNatClampNeg))))))))))))
def f_X0_cross (v1 : Int32) (q2 : Nat) (M : Mem) : Option Mem :=
  (f_X0_cross_l26 FU) q2 (v1 * 6) ((1 - v1) * 6) 0 (mu (mu M 36 12 1) 36 13 0)

def f_X7_joined (v0 : Int32) (v1 : Int32) (v2 : Int32) (M : Mem) : Option (Int32 × Mem) :=
  (if v0 = (-13) then some ((v1 - v2), M) else (if v0 = (-12) then some ((v1 + v2), M) else (if v0 = (-11) then (if v1 = v2 then some (1, M) else some (0, M)) else (if v0 = (-10) then (if v2 ≤ v1 then some (0, M) else some (1, M)) else (if v0 = (-9) then some ((v1 * v2), M) else (if v0 = (-8) then (if v1 = 0 then some (0, M) else (if v2 = 0 then some (0, M) else some (1, M))) else (if v0 = (-7) then (if v1 = 0 then (if v2 = 0 then some (0, M) else some (1, M)) else some (1, M)) else some ((v1 * v2), M))))))))

def f_X7_value_b171 (r : Nat → Int32 → Int32 → Int32 → Mem → Option (Int32 × Mem)) (k177 : Int32 → Mem → Option (Int32 × Mem)) (q0 : Nat) (v1 : Int32) (v4 : Int32) (v5 : Int32) (M : Mem) : Option (Int32 × Mem) :=
  r q0 v1 v4 (v5 + 1) M
def f_X7_value_b74 (r : Nat → Int32 → Int32 → Int32 → Mem → Option (Int32 × Mem)) (k177 : Int32 → Mem → Option (Int32 × Mem)) (q0 : Nat) (v1 : Int32) (v4 : Int32) (v5 : Int32) (s1 : Int32) (s2 : Int32) (M : Mem) : Option (Int32 × Mem) :=
  ck (inb s1 160) ((f_X7_value_b171 r k177) q0 v1 (v4 + 1) v5 (mu M 40 (s1).toNatClampNeg s2))
def f_X7_value_b137 (r : Nat → Int32 → Int32 → Int32 → Mem → Option (Int32 × Mem)) (k177 : Int32 → Mem → Option (Int32 × Mem)) (q0 : Nat) (v1 : Int32) (v4 : Int32) (v5 : Int32) (s1 : Int32) (s2 : Int32) (M : Mem) : Option (Int32 × Mem) :=
  ck (inb s1 160) ((f_X7_value_b171 r k177) q0 v1 v4 v5 (mu M 40 (s1).toNatClampNeg s2))
def f_X7_value_b95 (r : Nat → Int32 → Int32 → Int32 → Mem → Option (Int32 × Mem)) (k177 : Int32 → Mem → Option (Int32 × Mem)) (q0 : Nat) (v1 : Int32) (v4 : Int32) (v5 : Int32) (v6 : Int32) (M : Mem) : Option (Int32 × Mem) :=
  (if v4 < 1 then (f_X7_value_b171 r k177) q0 v1 v4 v5 M else ck (inb (v4 - 1) 160) ((if v6 = (-15) then (f_X7_value_b137 r k177) q0 v1 v4 v5 (v4 - 1) (-(M 40 ((v4 - 1)).toNatClampNeg)) M else (if (M 40 ((v4 - 1)).toNatClampNeg) = 0 then (f_X7_value_b137 r k177) q0 v1 v4 v5 (v4 - 1) 1 M else (f_X7_value_b137 r k177) q0 v1 v4 v5 (v4 - 1) 0 M))))
def f_X7_value_l21 (k177 : Int32 → Mem → Option (Int32 × Mem)) : Nat → Nat → Int32 → Int32 → Int32 → Mem → Option (Int32 × Mem)
  | 0, _, _, _, _, _ => none
  | n + 1, q0, v1, v4, v5, M => ck (kd q0 == 6) (ck (kd (q0 + 2) == 30) (ck (inb v1 (ln (q0 + 2))) ((if (M (q0 + 2) (v1).toNatClampNeg) ≤ v5 then k177 v4 M else ck (kd (q0 + 1) == 30) (ck (inb v5 (ln (q0 + 1))) ((if (M (q0 + 1) (v5).toNatClampNeg) < (-6) then (if (M (q0 + 1) (v5).toNatClampNeg) = (-9) then (f_X7_value_b95 (f_X7_value_l21 k177 n) k177) q0 v1 v4 v5 (M (q0 + 1) (v5).toNatClampNeg) M else (if (M (q0 + 1) (v5).toNatClampNeg) = (-15) then (f_X7_value_b95 (f_X7_value_l21 k177 n) k177) q0 v1 v4 v5 (M (q0 + 1) (v5).toNatClampNeg) M else (if v4 < 2 then (f_X7_value_b171 (f_X7_value_l21 k177 n) k177) q0 v1 v4 v5 M else ck (inb ((v4 + (-1)) - 1) 160) (ck (inb (v4 + (-1)) 160) ((f_X7_joined (M (q0 + 1) (v5).toNatClampNeg) (M 40 (((v4 + (-1)) - 1)).toNatClampNeg) (M 40 ((v4 + (-1))).toNatClampNeg) M).bind fun o17 => (f_X7_value_b171 (f_X7_value_l21 k177 n) k177) q0 v1 (v4 + (-1)) v5 (mu o17.2 40 (((v4 + (-1)) - 1)).toNatClampNeg o17.1)))))) else (if 160 ≤ v4 then (f_X7_value_b171 (f_X7_value_l21 k177 n) k177) q0 v1 v4 v5 M else (if (M (q0 + 1) (v5).toNatClampNeg) < 0 then ck (inb ((-1) - (M (q0 + 1) (v5).toNatClampNeg)) 6) ((f_X7_value_b74 (f_X7_value_l21 k177 n) k177) q0 v1 v4 v5 v4 (M 39 (((-1) - (M (q0 + 1) (v5).toNatClampNeg))).toNatClampNeg) M) else (f_X7_value_b74 (f_X7_value_l21 k177 n) k177) q0 v1 v4 v5 v4 (M (q0 + 1) (v5).toNatClampNeg) M)))))))))
def f_X7_value_b177 (v4 : Int32) (M : Mem) : Option (Int32 × Mem) :=
  (if v4 ≤ 0 then some (0, M) else ck (inb (v4 - 1) 160) (some ((M 40 ((v4 - 1)).toNatClampNeg), M)))
def f_X7_value_b19 (q0 : Nat) (v1 : Int32) (v4 : Int32) (s0 : Int32) (M : Mem) : Option (Int32 × Mem) :=
  (f_X7_value_l21 f_X7_value_b177 FU) q0 v1 v4 s0 M
def f_X7_value (q0 : Nat) (v1 : Int32) (M : Mem) : Option (Int32 × Mem) :=
  (if v1 = 0 then f_X7_value_b19 q0 v1 0 0 M else ck (kd q0 == 6) (ck (kd (q0 + 2) == 30) (ck (inb (v1 - 1) (ln (q0 + 2))) (f_X7_value_b19 q0 v1 0 (M (q0 + 2) ((v1 - 1)).toNatClampNeg) M))))

def f_X0_ask (v1 : Int32) (v2 : Int32) (v3 : Int32) (v4 : Int32) (M : Mem) : Option (Int32 × Mem) :=
  ck (inb v4 2) ((f_X7_value ((M 36 1)).toNatClampNeg v1 (mu (mu (mu (mu (mu (mu M 39 0 v2) 39 1 v3) 39 2 v4) 39 3 (M 36 4)) 39 4 (M 36 3)) 39 5 (M 37 (v4).toNatClampNeg))).bind fun o2 => ck (kd ((M 36 1)).toNatClampNeg == 6) (some (o2.1, o2.2)))

def f_X2_bounded (v0 : Int32) (M : Mem) : Option (Int32 × Mem) :=
  some ((jmax 0 (jmin 99 v0)), M)

def f_X2_fed (v0 : Int32) (v1 : Int32) (v2 : Int32) (v3 : Int32) (v4 : Int32) (M : Mem) : Option (Int32 × Mem) :=
  (if v0 = 1 then (f_X2_bounded (v1 * 2) M).bind fun o2 => some (o2.1, o2.2) else (if v0 = 2 then some ((v1 / 2), M) else (if v0 = 3 then (if v2 = 1 then some (v4, M) else (f_X2_bounded (v1 * 2) M).bind fun o7 => some (o7.1, o7.2)) else (if v0 = 4 then (if (jrem v3 4) = 0 then some (((v1 / 2) + 10), M) else some ((v1 / 2), M)) else (if v0 = 5 then (f_X2_bounded (v1 + v4) M).bind fun o12 => some (o12.1, o12.2) else some (v1, M))))))

def f_X2_toll (v0 : Int32) (v1 : Int32) (v2 : Int32) (v3 : Int32) (v4 : Int32) (M : Mem) : Option (Int32 × Mem) :=
  (if v0 = 1 then some (0, M) else (if v0 = 2 then (f_X2_bounded (v1 * v3) M).bind fun o3 => some (o3.1, o3.2) else (if v0 = 3 then some (1, M) else (if v0 = 4 then (if v2 = (jrem v4 6) then some (0, M) else (f_X2_bounded (v1 * v3) M).bind fun o8 => some (o8.1, o8.2)) else (if v0 = 5 then some (9, M) else some (v1, M))))))

def f_X2_signs_b62 (v2 : Int32) (M : Mem) : Option (Int32 × Mem) :=
  (if v2 = 0 then some (0, M) else some (1, M))
def f_X2_signs (v0 : Int32) (v1 : Int32) (v2 : Int32) (v3 : Int32) (M : Mem) : Option (Int32 × Mem) :=
  (if v0 = 1 then some (1, M) else (if v0 = 2 then (if v1 = 0 then some (0, M) else (if v3 = 0 then some (0, M) else some (1, M))) else (if v0 = 3 then some (1, M) else (if v0 = 4 then (if v1 = 0 then f_X2_signs_b62 v2 M else (if v3 = 0 then f_X2_signs_b62 v2 M else some (1, M))) else (if v0 = 5 then (if v1 = 0 then (if v2 = 0 then some (0, M) else some (1, M)) else some (1, M)) else ck (zb v1) (some (v1, M)))))))

def f_X0_judge_b91 (r : Int32 → Int32 → Mem → Option Mem) (k97 : Int32 → Mem → Option Mem) (v1 : Int32) (v2 : Int32) (M : Mem) : Option Mem :=
  r v1 (v2 + 1) M
def f_X0_judge_l41 (k97 : Int32 → Mem → Option Mem) : Nat → Int32 → Int32 → Mem → Option Mem
  | 0, _, _, _ => none
  | n + 1, v1, v2, M => (if 6 ≤ v2 then k97 v1 M else ck (inb v2 6) ((if (M 41 (v2).toNatClampNeg) ≤ 0 then (f_X0_judge_b91 (f_X0_judge_l41 k97 n) k97) v1 v2 M else (f_X0_ask 1 v2 (M 41 (v2).toNatClampNeg) v1 M).bind fun o10 => (f_X2_bounded o10.1 o10.2).bind fun o12 => (f_X2_toll (M 36 2) o12.1 v2 (M 41 (v2).toNatClampNeg) (o12.2 36 3) o12.2).bind fun o14 => (f_X0_judge_b91 (f_X0_judge_l41 k97 n) k97) v1 v2 (mu o14.2 36 14 ((M 36 14) + o14.1)))))
def f_X0_judge_b160 (r : Int32 → Int32 → Mem → Option Mem) (v1 : Int32) (v2 : Int32) (s1 : Int32) (s2 : Int32) (s3 : Int32) (s4 : Int32) (s5 : Int32) (M : Mem) : Option Mem :=
  (f_X2_signs s2 s3 s4 s5 M).bind fun o23 => ck (inb s1 2) (ck (zb o23.1) (r v1 (v2 + 1) (mu o23.2 42 (s1).toNatClampNeg o23.1)))
def f_X0_judge_b142 (r : Int32 → Int32 → Mem → Option Mem) (v1 : Int32) (v2 : Int32) (s1 : Int32) (s2 : Int32) (s3 : Int32) (s4 : Int32) (M : Mem) : Option Mem :=
  ck (inb v2 2) ((if (M 37 (v2).toNatClampNeg) ≤ (M 36 14) then (f_X0_judge_b160 r) v1 v2 s1 s2 s3 s4 0 M else (f_X0_judge_b160 r) v1 v2 s1 s2 s3 s4 1 M))
def f_X0_judge_b132 (r : Int32 → Int32 → Mem → Option Mem) (v1 : Int32) (v2 : Int32) (s1 : Int32) (s2 : Int32) (s3 : Int32) (M : Mem) : Option Mem :=
  (if v2 = v1 then (f_X0_judge_b142 r) v1 v2 s1 s2 s3 1 M else (f_X0_judge_b142 r) v1 v2 s1 s2 s3 0 M)
def f_X0_judge_l99 : Nat → Int32 → Int32 → Mem → Option Mem
  | 0, _, _, _ => none
  | n + 1, v1, v2, M => (if 2 ≤ v2 then some M else (f_X0_ask 2 0 (M 36 14) v2 M).bind fun o17 => (if o17.1 = 0 then (f_X0_judge_b132 (f_X0_judge_l99 n)) v1 v2 v2 (M 36 2) 0 o17.2 else (f_X0_judge_b132 (f_X0_judge_l99 n)) v1 v2 v2 (M 36 2) 1 o17.2))
def f_X0_judge_b97 (v1 : Int32) (M : Mem) : Option Mem :=
  (f_X0_judge_l99 FU) v1 0 M
def f_X0_judge (v1 : Int32) (M : Mem) : Option Mem :=
  (f_X0_ask 0 0 (M 36 7) v1 M).bind fun o1 => (f_X2_bounded o1.1 o1.2).bind fun o3 => (f_X2_fed (M 36 2) o3.1 v1 (o3.2 36 4) (o3.2 36 3) o3.2).bind fun o5 => (f_X0_judge_l41 f_X0_judge_b97 FU) v1 0 (mu (mu o5.2 36 15 o5.1) 36 14 0)

def f_X0_worth (M : Mem) : Option (Int32 × Mem) :=
  some (((M 36 15) - (M 36 14)), M)

def f_X8_asks (v1 : Int32) (v2 : Int32) (v3 : Int32) (M : Mem) : Option (Int32 × Mem) :=
  (f_X1_hasDish v1 M).bind fun o1 => (if o1.1 = 0 then some ((-1000), o1.2) else (f_X8_isKitchen v2 o1.2).bind fun o4 => (if o4.1 = 0 then some ((-1000), o4.2) else (f_X0_takeUp v1 o4.2).bind fun o7 => (f_X0_cross v2 2 o7).bind fun o9 => (f_X0_judge v2 o9).bind fun o11 => (if v3 = 0 then (if (o11 36 12) = 0 then some (0, o11) else some (1, o11)) else (if v3 = 1 then some ((o11 36 13), o11) else (if v3 = 2 then some ((o11 36 14), o11) else (if v3 = 3 then (if (o11 42 0) = 0 then some (0, o11) else some (1, o11)) else (if v3 = 4 then (if (o11 42 1) = 0 then some (0, o11) else some (1, o11)) else (if v3 = 5 then some ((o11 36 15), o11) else (if v3 = 6 then (f_X0_worth o11).bind fun o23 => some (o23.1, o23.2) else some ((-1000), o11))))))))))

def f_X5_append (v1 : Int32) (M : Mem) : Option (Int32 × Mem) :=
  (if (M 34 1) < 160 then ck (inb (M 34 1) 160) (some (1, (mu (mu M 35 ((M 34 1)).toNatClampNeg v1) 34 1 ((M 34 1) + 1)))) else some (0, M))

def f_X8_feed (v1 : Int32) (M : Mem) : Option (Int32 × Mem) :=
  (if v1 < 0 then some ((-2), M) else (if v1 ≤ 255 then (f_X5_append v1 M).bind fun o3 => (if o3.1 = 0 then some ((-4), o3.2) else some ((o3.2 34 1), o3.2)) else some ((-2), M)))

def f_X7_clear (q0 : Nat) (M : Mem) : Option Mem :=
  ck (kd q0 == 6) (some (mu M q0 2 0))

def f_X5_isLetter (v0 : Int32) (M : Mem) : Option (Int32 × Mem) :=
  (if v0 < 97 then some (0, M) else (if 122 < v0 then some (0, M) else some (1, M)))

def f_X5_isWord_l20 : Nat → Nat → Int32 → Mem → Option (Int32 × Mem)
  | 0, _, _, _ => none
  | n + 1, q1, v2, M => ck (isStr q1) ((if (slen q1) ≤ v2 then some (1, M) else ck (inb ((M 34 4) + v2) 160) (ck (inb v2 (slenN q1)) ((if (M 35 (((M 34 4) + v2)).toNatClampNeg) = (schar q1 (v2).toNatClampNeg) then (f_X5_isWord_l20 n) q1 (v2 + 1) M else some (0, M))))))
def f_X5_isWord (q1 : Nat) (M : Mem) : Option (Int32 × Mem) :=
  ck (isStr q1) ((if ((M 34 2) - (M 34 4)) = (slen q1) then (f_X5_isWord_l20 FU) q1 0 M else some (0, M)))

def f_X7_nameCode (v0 : Int32) (M : Mem) : Option (Int32 × Mem) :=
  some (((-1) - v0), M)

def f_X5_advanceWord_l0 (k39 : Mem → Option Mem) : Nat → Mem → Option Mem
  | 0, _ => none
  | n + 1, M => (if (M 34 1) ≤ (M 34 2) then k39 M else ck (inb (M 34 2) 160) ((f_X5_isLetter (M 35 ((M 34 2)).toNatClampNeg) M).bind fun o3 => (if o3.1 = 0 then k39 o3.2 else (f_X5_advanceWord_l0 k39 n) (mu o3.2 34 2 ((o3.2 34 2) + 1)))))
def f_X5_advanceWord_b39 (M : Mem) : Option Mem :=
  (f_X5_isWord 1000 (mu M 34 3 259)).bind fun o6 => (if o6.1 = 0 then (f_X5_isWord 1001 o6.2).bind fun o9 => (if o9.1 = 0 then (f_X5_isWord 1002 o9.2).bind fun o12 => (if o12.1 = 0 then (f_X5_isWord 1003 o12.2).bind fun o15 => (if o15.1 = 0 then (f_X5_isWord 1004 o15.2).bind fun o18 => (if o18.1 = 0 then (f_X5_isWord 1005 o18.2).bind fun o21 => (if o21.1 = 0 then (f_X5_isWord 1006 o21.2).bind fun o24 => (if o24.1 = 0 then (f_X5_isWord 1007 o24.2).bind fun o27 => (if o27.1 = 0 then (f_X5_isWord 1008 o27.2).bind fun o30 => (if o30.1 = 0 then (f_X5_isWord 1009 o30.2).bind fun o33 => (if o33.1 = 0 then (f_X5_isWord 1010 o33.2).bind fun o36 => (if o36.1 = 0 then (f_X5_isWord 1011 o36.2).bind fun o39 => (if o39.1 = 0 then some (mu o39.2 34 3 257) else some (mu o39.2 34 3 265)) else some (mu o36.2 34 3 264)) else some (mu o33.2 34 3 263)) else some (mu o30.2 34 3 262)) else some (mu o27.2 34 3 261)) else some (mu o24.2 34 3 260)) else (f_X7_nameCode 5 o21.2).bind fun o42 => some (mu o42.2 34 5 o42.1)) else (f_X7_nameCode 4 o18.2).bind fun o44 => some (mu o44.2 34 5 o44.1)) else (f_X7_nameCode 3 o15.2).bind fun o46 => some (mu o46.2 34 5 o46.1)) else (f_X7_nameCode 2 o12.2).bind fun o48 => some (mu o48.2 34 5 o48.1)) else (f_X7_nameCode 1 o9.2).bind fun o50 => some (mu o50.2 34 5 o50.1)) else (f_X7_nameCode 0 o6.2).bind fun o52 => some (mu o52.2 34 5 o52.1))
def f_X5_advanceWord (M : Mem) : Option Mem :=
  (f_X5_advanceWord_l0 f_X5_advanceWord_b39 FU) M

def f_X5_isDigit (v0 : Int32) (M : Mem) : Option (Int32 × Mem) :=
  (if v0 < 48 then some (0, M) else (if 57 < v0 then some (0, M) else some (1, M)))

def f_X5_advanceNumber_b68 (r : Mem → Option Mem) (k81 : Mem → Option Mem) (M : Mem) : Option Mem :=
  r (mu M 34 2 ((M 34 2) + 1))
def f_X5_advanceNumber_l5 (k81 : Mem → Option Mem) : Nat → Mem → Option Mem
  | 0, _ => none
  | n + 1, M => (if (M 34 1) ≤ (M 34 2) then k81 M else ck (inb (M 34 2) 160) ((f_X5_isDigit (M 35 ((M 34 2)).toNatClampNeg) M).bind fun o3 => (if o3.1 = 0 then k81 o3.2 else (if 4 ≤ ((o3.2 34 2) - (o3.2 34 4)) then (f_X5_advanceNumber_b68 (f_X5_advanceNumber_l5 k81 n) k81) o3.2 else ck (inb (o3.2 34 2) 160) ((f_X5_advanceNumber_b68 (f_X5_advanceNumber_l5 k81 n) k81) (mu o3.2 34 5 ((((o3.2 34 5) * 10) + (o3.2 35 ((o3.2 34 2)).toNatClampNeg)) - 48)))))))
def f_X5_advanceNumber_b81 (M : Mem) : Option Mem :=
  (if ((M 34 2) - (M 34 4)) ≤ 4 then some (mu M 34 3 258) else some (mu M 34 3 257))
def f_X5_advanceNumber (M : Mem) : Option Mem :=
  (f_X5_advanceNumber_l5 f_X5_advanceNumber_b81 FU) (mu M 34 5 0)

def f_X5_isSign (v0 : Int32) (M : Mem) : Option (Int32 × Mem) :=
  (if v0 = 40 then some (1, M) else (if v0 = 41 then some (1, M) else (if v0 = 59 then some (1, M) else (if v0 = 43 then some (1, M) else (if v0 = 45 then some (1, M) else (if v0 = 42 then some (1, M) else (if v0 = 60 then some (1, M) else (if v0 = 61 then some (1, M) else some (0, M)))))))))

def f_X5_advance_b39 (r : Mem → Option Mem) (k52 : Mem → Option Mem) (M : Mem) : Option Mem :=
  r (mu M 34 2 ((M 34 2) + 1))
def f_X5_advance_l0 (k52 : Mem → Option Mem) : Nat → Mem → Option Mem
  | 0, _ => none
  | n + 1, M => (if (M 34 1) ≤ (M 34 2) then k52 M else ck (inb (M 34 2) 160) ((if (M 35 ((M 34 2)).toNatClampNeg) = 32 then (f_X5_advance_b39 (f_X5_advance_l0 k52 n) k52) M else (if (M 35 ((M 34 2)).toNatClampNeg) = 10 then (f_X5_advance_b39 (f_X5_advance_l0 k52 n) k52) M else k52 M))))
def f_X5_advance_b156 (s1 : Int32) (M : Mem) : Option Mem :=
  some (mu (mu M 34 3 s1) 34 2 ((M 34 2) + 1))
def f_X5_advance_b52 (M : Mem) : Option Mem :=
  (if (M 34 2) < (M 34 1) then ck (inb (M 34 2) 160) ((f_X5_isLetter (M 35 ((M 34 2)).toNatClampNeg) (mu M 34 4 (M 34 2))).bind fun o7 => (if o7.1 = 0 then ck (inb (o7.2 34 2) 160) ((f_X5_isDigit (o7.2 35 ((o7.2 34 2)).toNatClampNeg) o7.2).bind fun o11 => (if o11.1 = 0 then ck (inb (o11.2 34 2) 160) ((f_X5_isSign (o11.2 35 ((o11.2 34 2)).toNatClampNeg) o11.2).bind fun o15 => (if o15.1 = 0 then f_X5_advance_b156 257 o15.2 else ck (inb (o15.2 34 2) 160) (f_X5_advance_b156 (o15.2 35 ((o15.2 34 2)).toNatClampNeg) o15.2))) else (f_X5_advanceNumber o11.2).bind fun o19 => some o19)) else (f_X5_advanceWord o7.2).bind fun o21 => some o21)) else some (mu (mu M 34 4 (M 34 2)) 34 3 256))
def f_X5_advance (M : Mem) : Option Mem :=
  (f_X5_advance_l0 f_X5_advance_b52 FU) M

def f_X5_fail (M : Mem) : Option Mem :=
  (if (M 34 6) = (-1) then some (mu (mu M 34 6 (M 34 4)) 34 3 257) else some (mu M 34 3 257))

def f_X5_expect (v1 : Int32) (M : Mem) : Option Mem :=
  (if (M 34 3) = v1 then (f_X5_advance M).bind fun o4 => some o4 else (f_X5_fail M).bind fun o2 => some o2)

def f_X7_append (q0 : Nat) (v1 : Int32) (M : Mem) : Option Mem :=
  ck (kd q0 == 6) ((if 160 ≤ (M q0 2) then some M else ck (kd (q0 + 1) == 30) (ck (inb (M q0 2) (ln (q0 + 1))) (some (mu (mu M (q0 + 1) ((M q0 2)).toNatClampNeg v1) q0 2 ((M q0 2) + 1))))))

def f_X5_readEither_l8 (rc_X5_readEither : Nat → Int32 → Mem → Option Mem) (rc_X5_readBoth : Nat → Int32 → Mem → Option Mem) (rc_X5_readNot : Nat → Int32 → Mem → Option Mem) (rc_X5_readSum : Nat → Int32 → Mem → Option Mem) (rc_X5_readTerm : Nat → Int32 → Mem → Option Mem) (rc_X5_readOne : Nat → Int32 → Mem → Option Mem) : Nat → Nat → Int32 → Int32 → Mem → Option Mem
  | 0, _, _, _, _ => none
  | n + 1, q1, v2, v3, M => (if 160 ≤ v3 then some M else (if (M 34 3) = 263 then (f_X5_advance M).bind fun o5 => (rc_X5_readBoth q1 v2 o5).bind fun o7 => (f_X7_append q1 (-7) o7).bind fun o9 => ck (kd q1 == 6) ((f_X5_readEither_l8 rc_X5_readEither rc_X5_readBoth rc_X5_readNot rc_X5_readSum rc_X5_readTerm rc_X5_readOne n) q1 v2 (v3 + 1) o9) else some M))
def f_X5_readEither_b (rc_X5_readEither : Nat → Int32 → Mem → Option Mem) (rc_X5_readBoth : Nat → Int32 → Mem → Option Mem) (rc_X5_readNot : Nat → Int32 → Mem → Option Mem) (rc_X5_readSum : Nat → Int32 → Mem → Option Mem) (rc_X5_readTerm : Nat → Int32 → Mem → Option Mem) (rc_X5_readOne : Nat → Int32 → Mem → Option Mem) (q1 : Nat) (v2 : Int32) (M : Mem) : Option Mem :=
  (rc_X5_readBoth q1 v2 M).bind fun o1 => (f_X5_readEither_l8 rc_X5_readEither rc_X5_readBoth rc_X5_readNot rc_X5_readSum rc_X5_readTerm rc_X5_readOne FU) q1 v2 0 o1
def f_X5_readBoth_l8 (rc_X5_readEither : Nat → Int32 → Mem → Option Mem) (rc_X5_readBoth : Nat → Int32 → Mem → Option Mem) (rc_X5_readNot : Nat → Int32 → Mem → Option Mem) (rc_X5_readSum : Nat → Int32 → Mem → Option Mem) (rc_X5_readTerm : Nat → Int32 → Mem → Option Mem) (rc_X5_readOne : Nat → Int32 → Mem → Option Mem) : Nat → Nat → Int32 → Int32 → Mem → Option Mem
  | 0, _, _, _, _ => none
  | n + 1, q1, v2, v3, M => (if 160 ≤ v3 then some M else (if (M 34 3) = 264 then (f_X5_advance M).bind fun o5 => (rc_X5_readNot q1 v2 o5).bind fun o7 => (f_X7_append q1 (-8) o7).bind fun o9 => ck (kd q1 == 6) ((f_X5_readBoth_l8 rc_X5_readEither rc_X5_readBoth rc_X5_readNot rc_X5_readSum rc_X5_readTerm rc_X5_readOne n) q1 v2 (v3 + 1) o9) else some M))
def f_X5_readBoth_b (rc_X5_readEither : Nat → Int32 → Mem → Option Mem) (rc_X5_readBoth : Nat → Int32 → Mem → Option Mem) (rc_X5_readNot : Nat → Int32 → Mem → Option Mem) (rc_X5_readSum : Nat → Int32 → Mem → Option Mem) (rc_X5_readTerm : Nat → Int32 → Mem → Option Mem) (rc_X5_readOne : Nat → Int32 → Mem → Option Mem) (q1 : Nat) (v2 : Int32) (M : Mem) : Option Mem :=
  (rc_X5_readNot q1 v2 M).bind fun o1 => (f_X5_readBoth_l8 rc_X5_readEither rc_X5_readBoth rc_X5_readNot rc_X5_readSum rc_X5_readTerm rc_X5_readOne FU) q1 v2 0 o1
def f_X5_readNot_b79 (rc_X5_readEither : Nat → Int32 → Mem → Option Mem) (rc_X5_readBoth : Nat → Int32 → Mem → Option Mem) (rc_X5_readNot : Nat → Int32 → Mem → Option Mem) (rc_X5_readSum : Nat → Int32 → Mem → Option Mem) (rc_X5_readTerm : Nat → Int32 → Mem → Option Mem) (rc_X5_readOne : Nat → Int32 → Mem → Option Mem) (q1 : Nat) (v2 : Int32) (s0 : Int32) (M : Mem) : Option Mem :=
  (f_X5_advance M).bind fun o17 => (rc_X5_readSum q1 v2 o17).bind fun o19 => (f_X7_append q1 s0 o19).bind fun o21 => ck (kd q1 == 6) (some o21)
def f_X5_readNot_b63 (rc_X5_readEither : Nat → Int32 → Mem → Option Mem) (rc_X5_readBoth : Nat → Int32 → Mem → Option Mem) (rc_X5_readNot : Nat → Int32 → Mem → Option Mem) (rc_X5_readSum : Nat → Int32 → Mem → Option Mem) (rc_X5_readTerm : Nat → Int32 → Mem → Option Mem) (rc_X5_readOne : Nat → Int32 → Mem → Option Mem) (q1 : Nat) (v2 : Int32) (M : Mem) : Option Mem :=
  (if (M 34 3) = 60 then (f_X5_readNot_b79 rc_X5_readEither rc_X5_readBoth rc_X5_readNot rc_X5_readSum rc_X5_readTerm rc_X5_readOne) q1 v2 (-10) M else (f_X5_readNot_b79 rc_X5_readEither rc_X5_readBoth rc_X5_readNot rc_X5_readSum rc_X5_readTerm rc_X5_readOne) q1 v2 (-11) M)
def f_X5_readNot_b (rc_X5_readEither : Nat → Int32 → Mem → Option Mem) (rc_X5_readBoth : Nat → Int32 → Mem → Option Mem) (rc_X5_readNot : Nat → Int32 → Mem → Option Mem) (rc_X5_readSum : Nat → Int32 → Mem → Option Mem) (rc_X5_readTerm : Nat → Int32 → Mem → Option Mem) (rc_X5_readOne : Nat → Int32 → Mem → Option Mem) (q1 : Nat) (v2 : Int32) (M : Mem) : Option Mem :=
  (if (M 34 3) = 265 then (if v2 < 5 then (f_X5_advance M).bind fun o7 => (rc_X5_readNot q1 (v2 + 1) o7).bind fun o9 => (f_X7_append q1 (-9) o9).bind fun o11 => ck (kd q1 == 6) (some o11) else (f_X5_fail M).bind fun o14 => some o14) else (rc_X5_readSum q1 v2 M).bind fun o2 => (if (o2 34 3) = 60 then (f_X5_readNot_b63 rc_X5_readEither rc_X5_readBoth rc_X5_readNot rc_X5_readSum rc_X5_readTerm rc_X5_readOne) q1 v2 o2 else (if (o2 34 3) = 61 then (f_X5_readNot_b63 rc_X5_readEither rc_X5_readBoth rc_X5_readNot rc_X5_readSum rc_X5_readTerm rc_X5_readOne) q1 v2 o2 else some o2)))
def f_X5_readSum_b49 (rc_X5_readEither : Nat → Int32 → Mem → Option Mem) (rc_X5_readBoth : Nat → Int32 → Mem → Option Mem) (rc_X5_readNot : Nat → Int32 → Mem → Option Mem) (rc_X5_readSum : Nat → Int32 → Mem → Option Mem) (rc_X5_readTerm : Nat → Int32 → Mem → Option Mem) (rc_X5_readOne : Nat → Int32 → Mem → Option Mem) (r : Nat → Int32 → Int32 → Mem → Option Mem) (q1 : Nat) (v2 : Int32) (v3 : Int32) (s0 : Int32) (M : Mem) : Option Mem :=
  (f_X5_advance M).bind fun o7 => (rc_X5_readTerm q1 v2 o7).bind fun o9 => (f_X7_append q1 s0 o9).bind fun o11 => ck (kd q1 == 6) (r q1 v2 (v3 + 1) o11)
def f_X5_readSum_b33 (rc_X5_readEither : Nat → Int32 → Mem → Option Mem) (rc_X5_readBoth : Nat → Int32 → Mem → Option Mem) (rc_X5_readNot : Nat → Int32 → Mem → Option Mem) (rc_X5_readSum : Nat → Int32 → Mem → Option Mem) (rc_X5_readTerm : Nat → Int32 → Mem → Option Mem) (rc_X5_readOne : Nat → Int32 → Mem → Option Mem) (r : Nat → Int32 → Int32 → Mem → Option Mem) (q1 : Nat) (v2 : Int32) (v3 : Int32) (M : Mem) : Option Mem :=
  (if (M 34 3) = 43 then (f_X5_readSum_b49 rc_X5_readEither rc_X5_readBoth rc_X5_readNot rc_X5_readSum rc_X5_readTerm rc_X5_readOne r) q1 v2 v3 (-12) M else (f_X5_readSum_b49 rc_X5_readEither rc_X5_readBoth rc_X5_readNot rc_X5_readSum rc_X5_readTerm rc_X5_readOne r) q1 v2 v3 (-13) M)
def f_X5_readSum_l8 (rc_X5_readEither : Nat → Int32 → Mem → Option Mem) (rc_X5_readBoth : Nat → Int32 → Mem → Option Mem) (rc_X5_readNot : Nat → Int32 → Mem → Option Mem) (rc_X5_readSum : Nat → Int32 → Mem → Option Mem) (rc_X5_readTerm : Nat → Int32 → Mem → Option Mem) (rc_X5_readOne : Nat → Int32 → Mem → Option Mem) : Nat → Nat → Int32 → Int32 → Mem → Option Mem
  | 0, _, _, _, _ => none
  | n + 1, q1, v2, v3, M => (if 160 ≤ v3 then some M else (if (M 34 3) = 43 then (f_X5_readSum_b33 rc_X5_readEither rc_X5_readBoth rc_X5_readNot rc_X5_readSum rc_X5_readTerm rc_X5_readOne (f_X5_readSum_l8 rc_X5_readEither rc_X5_readBoth rc_X5_readNot rc_X5_readSum rc_X5_readTerm rc_X5_readOne n)) q1 v2 v3 M else (if (M 34 3) = 45 then (f_X5_readSum_b33 rc_X5_readEither rc_X5_readBoth rc_X5_readNot rc_X5_readSum rc_X5_readTerm rc_X5_readOne (f_X5_readSum_l8 rc_X5_readEither rc_X5_readBoth rc_X5_readNot rc_X5_readSum rc_X5_readTerm rc_X5_readOne n)) q1 v2 v3 M else some M)))
def f_X5_readSum_b (rc_X5_readEither : Nat → Int32 → Mem → Option Mem) (rc_X5_readBoth : Nat → Int32 → Mem → Option Mem) (rc_X5_readNot : Nat → Int32 → Mem → Option Mem) (rc_X5_readSum : Nat → Int32 → Mem → Option Mem) (rc_X5_readTerm : Nat → Int32 → Mem → Option Mem) (rc_X5_readOne : Nat → Int32 → Mem → Option Mem) (q1 : Nat) (v2 : Int32) (M : Mem) : Option Mem :=
  (rc_X5_readTerm q1 v2 M).bind fun o1 => (f_X5_readSum_l8 rc_X5_readEither rc_X5_readBoth rc_X5_readNot rc_X5_readSum rc_X5_readTerm rc_X5_readOne FU) q1 v2 0 o1
def f_X5_readTerm_l8 (rc_X5_readEither : Nat → Int32 → Mem → Option Mem) (rc_X5_readBoth : Nat → Int32 → Mem → Option Mem) (rc_X5_readNot : Nat → Int32 → Mem → Option Mem) (rc_X5_readSum : Nat → Int32 → Mem → Option Mem) (rc_X5_readTerm : Nat → Int32 → Mem → Option Mem) (rc_X5_readOne : Nat → Int32 → Mem → Option Mem) : Nat → Nat → Int32 → Int32 → Mem → Option Mem
  | 0, _, _, _, _ => none
  | n + 1, q1, v2, v3, M => (if 160 ≤ v3 then some M else (if (M 34 3) = 42 then (f_X5_advance M).bind fun o5 => (rc_X5_readOne q1 v2 o5).bind fun o7 => (f_X7_append q1 (-14) o7).bind fun o9 => ck (kd q1 == 6) ((f_X5_readTerm_l8 rc_X5_readEither rc_X5_readBoth rc_X5_readNot rc_X5_readSum rc_X5_readTerm rc_X5_readOne n) q1 v2 (v3 + 1) o9) else some M))
def f_X5_readTerm_b (rc_X5_readEither : Nat → Int32 → Mem → Option Mem) (rc_X5_readBoth : Nat → Int32 → Mem → Option Mem) (rc_X5_readNot : Nat → Int32 → Mem → Option Mem) (rc_X5_readSum : Nat → Int32 → Mem → Option Mem) (rc_X5_readTerm : Nat → Int32 → Mem → Option Mem) (rc_X5_readOne : Nat → Int32 → Mem → Option Mem) (q1 : Nat) (v2 : Int32) (M : Mem) : Option Mem :=
  (rc_X5_readOne q1 v2 M).bind fun o1 => (f_X5_readTerm_l8 rc_X5_readEither rc_X5_readBoth rc_X5_readNot rc_X5_readSum rc_X5_readTerm rc_X5_readOne FU) q1 v2 0 o1
def f_X5_readOne_b20 (rc_X5_readEither : Nat → Int32 → Mem → Option Mem) (rc_X5_readBoth : Nat → Int32 → Mem → Option Mem) (rc_X5_readNot : Nat → Int32 → Mem → Option Mem) (rc_X5_readSum : Nat → Int32 → Mem → Option Mem) (rc_X5_readTerm : Nat → Int32 → Mem → Option Mem) (rc_X5_readOne : Nat → Int32 → Mem → Option Mem) (q1 : Nat) (M : Mem) : Option Mem :=
  (f_X7_append q1 (M 34 5) M).bind fun o5 => ck (kd q1 == 6) ((f_X5_advance o5).bind fun o8 => some o8)
def f_X5_readOne_b66 (rc_X5_readEither : Nat → Int32 → Mem → Option Mem) (rc_X5_readBoth : Nat → Int32 → Mem → Option Mem) (rc_X5_readNot : Nat → Int32 → Mem → Option Mem) (rc_X5_readSum : Nat → Int32 → Mem → Option Mem) (rc_X5_readTerm : Nat → Int32 → Mem → Option Mem) (rc_X5_readOne : Nat → Int32 → Mem → Option Mem) (M : Mem) : Option Mem :=
  (f_X5_fail M).bind fun o13 => some o13
def f_X5_readOne_b85 (rc_X5_readEither : Nat → Int32 → Mem → Option Mem) (rc_X5_readBoth : Nat → Int32 → Mem → Option Mem) (rc_X5_readNot : Nat → Int32 → Mem → Option Mem) (rc_X5_readSum : Nat → Int32 → Mem → Option Mem) (rc_X5_readTerm : Nat → Int32 → Mem → Option Mem) (rc_X5_readOne : Nat → Int32 → Mem → Option Mem) (q1 : Nat) (v2 : Int32) (s0 : Int32) (M : Mem) : Option Mem :=
  (f_X5_advance M).bind fun o15 => (if s0 = 0 then (rc_X5_readEither q1 (v2 + 1) o15).bind fun o18 => (f_X5_expect 41 o18).bind fun o20 => some o20 else (rc_X5_readOne q1 (v2 + 1) o15).bind fun o22 => (f_X7_append q1 (-15) o22).bind fun o24 => ck (kd q1 == 6) (some o24))
def f_X5_readOne_b56 (rc_X5_readEither : Nat → Int32 → Mem → Option Mem) (rc_X5_readBoth : Nat → Int32 → Mem → Option Mem) (rc_X5_readNot : Nat → Int32 → Mem → Option Mem) (rc_X5_readSum : Nat → Int32 → Mem → Option Mem) (rc_X5_readTerm : Nat → Int32 → Mem → Option Mem) (rc_X5_readOne : Nat → Int32 → Mem → Option Mem) (q1 : Nat) (v2 : Int32) (s0 : Int32) (M : Mem) : Option Mem :=
  (if s0 = 0 then (f_X5_readOne_b66 rc_X5_readEither rc_X5_readBoth rc_X5_readNot rc_X5_readSum rc_X5_readTerm rc_X5_readOne) M else (if v2 < 5 then (if (M 34 3) = 45 then (f_X5_readOne_b85 rc_X5_readEither rc_X5_readBoth rc_X5_readNot rc_X5_readSum rc_X5_readTerm rc_X5_readOne) q1 v2 1 M else (f_X5_readOne_b85 rc_X5_readEither rc_X5_readBoth rc_X5_readNot rc_X5_readSum rc_X5_readTerm rc_X5_readOne) q1 v2 0 M) else (f_X5_readOne_b66 rc_X5_readEither rc_X5_readBoth rc_X5_readNot rc_X5_readSum rc_X5_readTerm rc_X5_readOne) M))
def f_X5_readOne_b51 (rc_X5_readEither : Nat → Int32 → Mem → Option Mem) (rc_X5_readBoth : Nat → Int32 → Mem → Option Mem) (rc_X5_readNot : Nat → Int32 → Mem → Option Mem) (rc_X5_readSum : Nat → Int32 → Mem → Option Mem) (rc_X5_readTerm : Nat → Int32 → Mem → Option Mem) (rc_X5_readOne : Nat → Int32 → Mem → Option Mem) (q1 : Nat) (v2 : Int32) (M : Mem) : Option Mem :=
  (f_X5_readOne_b56 rc_X5_readEither rc_X5_readBoth rc_X5_readNot rc_X5_readSum rc_X5_readTerm rc_X5_readOne) q1 v2 1 M
def f_X5_readOne_b (rc_X5_readEither : Nat → Int32 → Mem → Option Mem) (rc_X5_readBoth : Nat → Int32 → Mem → Option Mem) (rc_X5_readNot : Nat → Int32 → Mem → Option Mem) (rc_X5_readSum : Nat → Int32 → Mem → Option Mem) (rc_X5_readTerm : Nat → Int32 → Mem → Option Mem) (rc_X5_readOne : Nat → Int32 → Mem → Option Mem) (q1 : Nat) (v2 : Int32) (M : Mem) : Option Mem :=
  (if (M 34 3) = 258 then (f_X5_readOne_b20 rc_X5_readEither rc_X5_readBoth rc_X5_readNot rc_X5_readSum rc_X5_readTerm rc_X5_readOne) q1 M else (if (M 34 3) = 259 then (f_X5_readOne_b20 rc_X5_readEither rc_X5_readBoth rc_X5_readNot rc_X5_readSum rc_X5_readTerm rc_X5_readOne) q1 M else (if (M 34 3) = 45 then (f_X5_readOne_b51 rc_X5_readEither rc_X5_readBoth rc_X5_readNot rc_X5_readSum rc_X5_readTerm rc_X5_readOne) q1 v2 M else (if (M 34 3) = 40 then (f_X5_readOne_b51 rc_X5_readEither rc_X5_readBoth rc_X5_readNot rc_X5_readSum rc_X5_readTerm rc_X5_readOne) q1 v2 M else (f_X5_readOne_b56 rc_X5_readEither rc_X5_readBoth rc_X5_readNot rc_X5_readSum rc_X5_readTerm rc_X5_readOne) q1 v2 0 M))))
def G_X5_readEither : Nat → (Nat → Int32 → Mem → Option Mem) × (Nat → Int32 → Mem → Option Mem) × (Nat → Int32 → Mem → Option Mem) × (Nat → Int32 → Mem → Option Mem) × (Nat → Int32 → Mem → Option Mem) × (Nat → Int32 → Mem → Option Mem)
  | 0 => (fun _ _ _ => none, fun _ _ _ => none, fun _ _ _ => none, fun _ _ _ => none, fun _ _ _ => none, fun _ _ _ => none)
  | d + 1 => let g := G_X5_readEither d; (f_X5_readEither_b g.1 g.2.1 g.2.2.1 g.2.2.2.1 g.2.2.2.2.1 g.2.2.2.2.2, f_X5_readBoth_b g.1 g.2.1 g.2.2.1 g.2.2.2.1 g.2.2.2.2.1 g.2.2.2.2.2, f_X5_readNot_b g.1 g.2.1 g.2.2.1 g.2.2.2.1 g.2.2.2.2.1 g.2.2.2.2.2, f_X5_readSum_b g.1 g.2.1 g.2.2.1 g.2.2.2.1 g.2.2.2.2.1 g.2.2.2.2.2, f_X5_readTerm_b g.1 g.2.1 g.2.2.1 g.2.2.2.1 g.2.2.2.2.1 g.2.2.2.2.2, f_X5_readOne_b g.1 g.2.1 g.2.2.1 g.2.2.2.1 g.2.2.2.2.1 g.2.2.2.2.2)
def f_X5_readEither (d : Nat) : Nat → Int32 → Mem → Option Mem := (G_X5_readEither d).1
def f_X5_readBoth (d : Nat) : Nat → Int32 → Mem → Option Mem := (G_X5_readEither d).2.1
def f_X5_readNot (d : Nat) : Nat → Int32 → Mem → Option Mem := (G_X5_readEither d).2.2.1
def f_X5_readSum (d : Nat) : Nat → Int32 → Mem → Option Mem := (G_X5_readEither d).2.2.2.1
def f_X5_readTerm (d : Nat) : Nat → Int32 → Mem → Option Mem := (G_X5_readEither d).2.2.2.2.1
def f_X5_readOne (d : Nat) : Nat → Int32 → Mem → Option Mem := (G_X5_readEither d).2.2.2.2.2

def f_X7_endSection (q0 : Nat) (v1 : Int32) (M : Mem) : Option Mem :=
  ck (kd q0 == 6) (ck (kd (q0 + 2) == 30) (ck (inb v1 (ln (q0 + 2))) (some (mu M (q0 + 2) (v1).toNatClampNeg (M q0 2)))))

def f_X5_readInto_l20 (k57 : Mem → Option (Int32 × Mem)) : Nat → Nat → Int32 → Mem → Option (Int32 × Mem)
  | 0, _, _, _ => none
  | n + 1, q1, v2, M => (if 3 ≤ v2 then k57 M else (f_X5_expect (260 + v2) M).bind fun o7 => (f_X5_readEither DP q1 0 o7).bind fun o9 => (f_X5_expect 59 o9).bind fun o11 => (f_X7_endSection q1 v2 o11).bind fun o13 => ck (kd q1 == 6) ((f_X5_readInto_l20 k57 n) q1 (v2 + 1) o13))
def f_X5_readInto_b71 (M : Mem) : Option (Int32 × Mem) :=
  some ((M 34 6), (mu M 34 1 0))
def f_X5_readInto_b57 (M : Mem) : Option (Int32 × Mem) :=
  (if (M 34 3) = 256 then f_X5_readInto_b71 M else (f_X5_fail M).bind fun o17 => f_X5_readInto_b71 o17)
def f_X5_readInto (q1 : Nat) (M : Mem) : Option (Int32 × Mem) :=
  (f_X7_clear q1 M).bind fun o1 => ck (kd q1 == 6) ((f_X5_advance (mu (mu o1 34 2 0) 34 6 (-1))).bind fun o4 => (f_X5_readInto_l20 f_X5_readInto_b57 FU) q1 0 o4)

def f_X8_text (M : Mem) : Option (Int32 × Mem) :=
  (if (M 0 4) < 6 then ck (inb (M 0 4) 6) ((f_X5_readInto (16 + 3 * ((M 0 4)).toNatClampNeg) M).bind fun o3 => (if o3.1 = (-1) then some ((((o3.2 0 4) + 1) - 1), (mu o3.2 0 4 ((o3.2 0 4) + 1))) else some (((-100) - o3.1), o3.2))) else some ((-4), M))

def f_X8_force (v1 : Int32) (M : Mem) : Option (Int32 × Mem) :=
  (if v1 < 0 then some ((-2), M) else (if v1 < (M 0 4) then some ((M 1 8), (mu M 1 8 v1)) else some ((-2), M)))

def f_X0_isCooked (v1 : Int32) (q2 : Nat) (M : Mem) : Option (Int32 × Mem) :=
  (f_X0_cross v1 q2 M).bind fun o1 => (if (o1 36 12) = 0 then some (0, o1) else (f_X0_judge v1 o1).bind fun o4 => (if (o4 42 0) = 0 then some (0, o4) else (if (o4 42 1) = 0 then some (0, o4) else some (1, o4))))

def f_X0_useUp_l16 : Nat → Nat → Int32 → Int32 → Int32 → Mem → Option Mem
  | 0, _, _, _, _, _ => none
  | n + 1, q2, v3, v4, v5, M => (if 6 ≤ v5 then some M else ck (kd q2 == 10) (ck (inb (v3 + v5) (ln q2)) (ck (inb v5 6) (ck (inb (v4 + v5) (ln q2)) ((f_X0_useUp_l16 n) q2 v3 v4 (v5 + 1) (mu (mu M q2 ((v3 + v5)).toNatClampNeg ((M q2 ((v3 + v5)).toNatClampNeg) - ((M 38 (v5).toNatClampNeg) - (M 41 (v5).toNatClampNeg)))) q2 ((v4 + v5)).toNatClampNeg (((mu M q2 ((v3 + v5)).toNatClampNeg ((M q2 ((v3 + v5)).toNatClampNeg) - ((M 38 (v5).toNatClampNeg) - (M 41 (v5).toNatClampNeg)))) q2 ((v4 + v5)).toNatClampNeg) - ((mu M q2 ((v3 + v5)).toNatClampNeg ((M q2 ((v3 + v5)).toNatClampNeg) - ((M 38 (v5).toNatClampNeg) - (M 41 (v5).toNatClampNeg)))) 41 (v5).toNatClampNeg))))))))
def f_X0_useUp (v1 : Int32) (q2 : Nat) (M : Mem) : Option Mem :=
  (f_X0_useUp_l16 FU) q2 (v1 * 6) ((1 - v1) * 6) 0 M

def f_X1_countCooked (v1 : Int32) (M : Mem) : Option Mem :=
  ck (inb v1 6) (some (mu M 7 (v1).toNatClampNeg (jmin 999 ((M 7 (v1).toNatClampNeg) + 1))))

def f_X8_cook (v1 : Int32) (v2 : Int32) (M : Mem) : Option (Int32 × Mem) :=
  (f_X1_hasDish v1 M).bind fun o1 => (if o1.1 = 0 then some ((-1000), o1.2) else (f_X8_isKitchen v2 o1.2).bind fun o4 => (if o4.1 = 0 then some ((-1000), o4.2) else (f_X0_takeUp v1 o4.2).bind fun o7 => (f_X0_isCooked v2 2 o7).bind fun o9 => (if o9.1 = 0 then (if (o9.2 36 12) = 0 then some ((-1001), o9.2) else some ((-1002), o9.2)) else (f_X0_useUp v2 2 o9.2).bind fun o12 => (f_X1_countCooked v1 o12).bind fun o14 => (f_X0_worth o14).bind fun o16 => some (o16.1, o16.2))))

def f_X8_isMenu_b67 (r : Int32 → Int32 → Mem → Option (Int32 × Mem)) (v1 : Int32) (v2 : Int32) (s0 : Int32) (s1 : Int32) (M : Mem) : Option (Int32 × Mem) :=
  (if s0 ≤ s1 then r v1 (v2 + 1) M else some (0, M))
def f_X8_isMenu_b54 (r : Int32 → Int32 → Mem → Option (Int32 × Mem)) (v1 : Int32) (v2 : Int32) (v3 : Int32) (s0 : Int32) (M : Mem) : Option (Int32 × Mem) :=
  (if s0 = 0 then (f_X8_isMenu_b67 r) v1 v2 v3 0 M else (f_X8_isMenu_b67 r) v1 v2 v3 2 M)
def f_X8_isMenu_l14 : Nat → Int32 → Int32 → Mem → Option (Int32 × Mem)
  | 0, _, _, _ => none
  | n + 1, v1, v2, M => (if 6 ≤ v2 then some (1, M) else ck (inb v2 6) (ck (!((stv 2000 (v2).toNatClampNeg) == 0)) ((if v2 < (6 - (M 1 6)) then (f_X8_isMenu_b54 (f_X8_isMenu_l14 n)) v1 v2 (jrem (v1 / (stv 2000 (v2).toNatClampNeg)) 10) 0 M else (f_X8_isMenu_b54 (f_X8_isMenu_l14 n)) v1 v2 (jrem (v1 / (stv 2000 (v2).toNatClampNeg)) 10) 1 M))))
def f_X8_isMenu (v1 : Int32) (M : Mem) : Option (Int32 × Mem) :=
  (if v1 < 0 then some (0, M) else (if v1 ≤ 999999 then (f_X8_isMenu_l14 FU) v1 0 M else some (0, M)))

def f_X4_begin (M : Mem) : Option Mem :=
  some (mu (mu (mu (mu (mcp M 2 0 44 0 12) 43 3 0) 43 4 0) 43 5 0) 43 6 (-1))

def f_X1_kitchenBy (v1 : Int32) (v2 : Int32) (M : Mem) : Option (Int32 × Mem) :=
  ck (inb ((6 - (M 1 6)) + v2) 6) (ck (!((stv 2000 (((6 - (M 1 6)) + v2)).toNatClampNeg) == 0)) (some (((jrem (v1 / (stv 2000 (((6 - (M 1 6)) + v2)).toNatClampNeg)) 10) - 1), M)))

def f_X4_goOn_b77 (s1 : Int32) (s2 : Int32) (M : Mem) : Option (Int32 × Mem) :=
  some (1, (mu (mu M 43 4 (s1 + s2)) 43 5 ((M 43 5) + (M 36 14))))
def f_X4_goOn (v1 : Int32) (v2 : Int32) (M : Mem) : Option (Int32 × Mem) :=
  (f_X0_takeUp v1 M).bind fun o1 => (f_X0_isCooked v2 44 o1).bind fun o3 => (if o3.1 = 0 then some (0, o3.2) else (f_X0_useUp v2 44 o3.2).bind fun o6 => (if v2 = 0 then f_X4_goOn_b77 (o6 43 4) (o6 36 15) (mu o6 43 3 ((o6 43 3) + (o6 36 15))) else f_X4_goOn_b77 (o6 43 4) 0 (mu o6 43 3 ((o6 43 3) + (o6 36 15)))))

def f_X4_play_b54 (r : Int32 → Int32 → Mem → Option Mem) (v1 : Int32) (v2 : Int32) (M : Mem) : Option Mem :=
  r v1 (v2 + 1) M
def f_X4_play_l6 : Nat → Int32 → Int32 → Mem → Option Mem
  | 0, _, _, _ => none
  | n + 1, v1, v2, M => (if (M 1 6) ≤ v2 then some M else (if (M 43 6) = (-1) then (f_X1_kitchenBy v1 v2 M).bind fun o5 => (if o5.1 = (-1) then (f_X4_play_b54 (f_X4_play_l6 n)) v1 v2 o5.2 else (f_X4_goOn v2 o5.1 o5.2).bind fun o8 => (if o8.1 = 0 then (f_X4_play_b54 (f_X4_play_l6 n)) v1 v2 (mu o8.2 43 6 v2) else (f_X4_play_b54 (f_X4_play_l6 n)) v1 v2 o8.2)) else some M))
def f_X4_play (v1 : Int32) (M : Mem) : Option Mem :=
  (f_X4_begin M).bind fun o1 => (f_X4_play_l6 FU) v1 0 o1

def f_X8_menu_b44 (v2 : Int32) (s0 : Int32) (M : Mem) : Option (Int32 × Mem) :=
  (if v2 = 0 then (if s0 = 0 then some (0, M) else some (1, M)) else (if v2 = 1 then (if s0 = 0 then some ((-100000), M) else some (((M 43 3) - (M 43 5)), M)) else (if v2 = 2 then (if s0 = 0 then some ((-100000), M) else some ((M 43 3), M)) else (if v2 = 3 then (if s0 = 0 then some ((-100000), M) else some ((M 43 5), M)) else some ((M 43 6), M)))))
def f_X8_menu (v1 : Int32) (v2 : Int32) (M : Mem) : Option (Int32 × Mem) :=
  (f_X8_isMenu v1 M).bind fun o1 => (if o1.1 = 0 then some ((-2), o1.2) else (if v2 < 0 then some ((-2), o1.2) else (if v2 ≤ 4 then (f_X4_play v1 o1.2).bind fun o6 => (if (o6 43 6) = (-1) then f_X8_menu_b44 v2 1 o6 else f_X8_menu_b44 v2 0 o6) else some ((-2), o1.2))))

def f_X8_serve_b104 (r : Int32 → Int32 → Mem → Option (Int32 × Mem)) (k110 : Mem → Option (Int32 × Mem)) (v1 : Int32) (v2 : Int32) (M : Mem) : Option (Int32 × Mem) :=
  r v1 (v2 + 1) M
def f_X8_serve_l72 (k110 : Mem → Option (Int32 × Mem)) : Nat → Int32 → Int32 → Mem → Option (Int32 × Mem)
  | 0, _, _, _ => none
  | n + 1, v1, v2, M => (if (M 1 6) ≤ v2 then k110 M else (f_X1_kitchenBy v1 v2 M).bind fun o9 => (if o9.1 = (-1) then (f_X8_serve_b104 (f_X8_serve_l72 k110 n) k110) v1 v2 o9.2 else (f_X1_countCooked v2 o9.2).bind fun o12 => (f_X8_serve_b104 (f_X8_serve_l72 k110 n) k110) v1 v2 o12))
def f_X8_serve_b110 (M : Mem) : Option (Int32 × Mem) :=
  some (((M 43 3) - (M 43 5)), (mu M 1 7 ((M 1 7) + 1)))
def f_X8_serve (v1 : Int32) (M : Mem) : Option (Int32 × Mem) :=
  (f_X8_isMenu v1 M).bind fun o1 => (if o1.1 = 0 then some ((-100001), o1.2) else (f_X4_play v1 o1.2).bind fun o4 => (if (o4 43 6) = (-1) then (if (o4 1 7) < 999 then (f_X8_serve_l72 f_X8_serve_b110 FU) v1 0 (mcp o4 44 0 2 0 12) else some ((-100003), o4)) else some ((-100002), o4)))

def f_X3_weigh_b66 (v1 : Int32) (v3 : Int32) (v4 : Int32) (M : Mem) : Option Mem :=
  some (mu (mu (mu M 45 8 v1) 45 9 v3) 45 10 v4)
def f_X3_weigh_b40 (v1 : Int32) (v3 : Int32) (v4 : Int32) (M : Mem) : Option Mem :=
  (if (M 45 10) < v4 then f_X3_weigh_b66 v1 v3 v4 M else (if v4 = (M 45 10) then (if (M 45 9) ≤ v3 then some M else f_X3_weigh_b66 v1 v3 v4 M) else some M))
def f_X3_weigh_b22 (v1 : Int32) (v2 : Int32) (v3 : Int32) (v4 : Int32) (M : Mem) : Option Mem :=
  (if v2 ≤ (M 45 7) then f_X3_weigh_b40 v1 v3 v4 M else f_X3_weigh_b40 v1 v3 v4 (mu (mu M 45 6 v1) 45 7 v2))
def f_X3_weigh (v1 : Int32) (v2 : Int32) (v3 : Int32) (v4 : Int32) (M : Mem) : Option Mem :=
  (if (v2 - v3) ≤ (M 45 5) then f_X3_weigh_b22 v1 v2 v3 v4 M else f_X3_weigh_b22 v1 v2 v3 v4 (mu (mu M 45 4 v1) 45 5 (v2 - v3)))

def f_X3_goThrough_b17 (rc_X3_goThrough : Int32 → Int32 → Int32 → Int32 → Int32 → Mem → Option Mem) (v2 : Int32) (v3 : Int32) (v4 : Int32) (v5 : Int32) (M : Mem) : Option Mem :=
  (f_X3_weigh v2 v3 v4 v5 M).bind fun o11 => some o11
def f_X3_goThrough_b190 (rc_X3_goThrough : Int32 → Int32 → Int32 → Int32 → Int32 → Mem → Option Mem) (r : Int32 → Int32 → Int32 → Int32 → Int32 → Int32 → Mem → Option Mem) (v1 : Int32) (v2 : Int32) (v3 : Int32) (v4 : Int32) (v5 : Int32) (v6 : Int32) (M : Mem) : Option Mem :=
  r v1 v2 v3 v4 v5 (v6 + 1) M
def f_X3_goThrough_l77 (rc_X3_goThrough : Int32 → Int32 → Int32 → Int32 → Int32 → Mem → Option Mem) : Nat → Int32 → Int32 → Int32 → Int32 → Int32 → Int32 → Mem → Option Mem
  | 0, _, _, _, _, _, _, _ => none
  | n + 1, v1, v2, v3, v4, v5, v6, M => (if 2 ≤ v6 then some M else (f_X0_takeUp v1 M).bind fun o14 => ck (inb v1 7) ((f_X0_isCooked v6 (47 + (v1).toNatClampNeg) o14).bind fun o17 => (if o17.1 = 0 then (f_X3_goThrough_b190 rc_X3_goThrough (f_X3_goThrough_l77 rc_X3_goThrough n)) v1 v2 v3 v4 v5 v6 o17.2 else ck (inb (v1 + 1) 7) (ck (kd (47 + (v1).toNatClampNeg) == 10) (ck (kd (47 + ((v1 + 1)).toNatClampNeg) == 10) (ck (cpk 0 (ln (47 + (v1).toNatClampNeg)) 0 (ln (47 + ((v1 + 1)).toNatClampNeg)) 12) ((f_X0_useUp v6 (47 + ((v1 + 1)).toNatClampNeg) (mcp o17.2 (47 + (v1).toNatClampNeg) 0 (47 + ((v1 + 1)).toNatClampNeg) 0 12)).bind fun o24 => (rc_X3_goThrough (v1 + 1) (((v2 * 10) + v6) + 1) (v3 + (o24 36 15)) (v4 + (o24 36 14)) (v5 + 1) o24).bind fun o26 => (f_X3_goThrough_b190 rc_X3_goThrough (f_X3_goThrough_l77 rc_X3_goThrough n)) v1 v2 v3 v4 v5 v6 o26)))))))
def f_X3_goThrough_b (rc_X3_goThrough : Int32 → Int32 → Int32 → Int32 → Int32 → Mem → Option Mem) (v1 : Int32) (v2 : Int32) (v3 : Int32) (v4 : Int32) (v5 : Int32) (M : Mem) : Option Mem :=
  (if (M 1 6) ≤ v1 then (f_X3_goThrough_b17 rc_X3_goThrough) v2 v3 v4 v5 M else (if v1 < 6 then ck (inb v1 7) (ck (inb (v1 + 1) 7) (ck (kd (47 + (v1).toNatClampNeg) == 10) (ck (kd (47 + ((v1 + 1)).toNatClampNeg) == 10) (ck (cpk 0 (ln (47 + (v1).toNatClampNeg)) 0 (ln (47 + ((v1 + 1)).toNatClampNeg)) 12) ((rc_X3_goThrough (v1 + 1) (v2 * 10) v3 v4 v5 (mcp M (47 + (v1).toNatClampNeg) 0 (47 + ((v1 + 1)).toNatClampNeg) 0 12)).bind fun o8 => (if v1 = (o8 45 3) then some o8 else (f_X3_goThrough_l77 rc_X3_goThrough FU) v1 v2 v3 v4 v5 0 o8)))))) else (f_X3_goThrough_b17 rc_X3_goThrough) v2 v3 v4 v5 M))
def f_X3_goThrough : Nat → Int32 → Int32 → Int32 → Int32 → Int32 → Mem → Option Mem
  | 0 => fun _ _ _ _ _ _ => none
  | d + 1 => f_X3_goThrough_b (f_X3_goThrough d)

def f_X3_seek_b53 (v1 : Int32) (M : Mem) : Option Mem :=
  (f_X3_goThrough DP 0 0 0 0 0 (mu (mu (mu (mu (mu (mu (mu (mu M 45 3 v1) 45 4 0) 45 5 0) 45 6 0) 45 7 0) 45 8 0) 45 9 0) 45 10 0)).bind fun o4 => some o4
def f_X3_seek (v1 : Int32) (v2 : Int32) (M : Mem) : Option Mem :=
  (if v2 < 0 then f_X3_seek_b53 v1 (mcp M 2 0 47 0 12) else (if 12 ≤ v2 then f_X3_seek_b53 v1 (mcp M 2 0 47 0 12) else ck (inb v2 12) (f_X3_seek_b53 v1 (mu (mcp M 2 0 47 0 12) 47 (v2).toNatClampNeg (jmin 99 (((mcp M 2 0 47 0 12) 47 (v2).toNatClampNeg) + 1))))))

def f_X8_sideOf_b45 (r : Int32 → Int32 → Int32 → Mem → Option (Int32 × Mem)) (v1 : Int32) (v2 : Int32) (v3 : Int32) (M : Mem) : Option (Int32 × Mem) :=
  r v1 v2 (v3 + 1) M
def f_X8_sideOf_b43 (r : Int32 → Int32 → Int32 → Mem → Option (Int32 × Mem)) (v1 : Int32) (v3 : Int32) (s0 : Int32) (s1 : Int32) (M : Mem) : Option (Int32 × Mem) :=
  (f_X8_sideOf_b45 r) v1 (s0 + s1) v3 M
def f_X8_sideOf_l4 : Nat → Int32 → Int32 → Int32 → Mem → Option (Int32 × Mem)
  | 0, _, _, _, _ => none
  | n + 1, v1, v2, v3, M => (if (M 1 6) ≤ v3 then some (v2, M) else (f_X1_kitchenBy v1 v3 M).bind fun o2 => (if o2.1 = (-1) then (f_X8_sideOf_b45 (f_X8_sideOf_l4 n)) v1 v2 v3 o2.2 else (if o2.1 = 0 then (f_X8_sideOf_b43 (f_X8_sideOf_l4 n)) v1 v3 v2 1 o2.2 else (f_X8_sideOf_b43 (f_X8_sideOf_l4 n)) v1 v3 v2 (-1) o2.2)))
def f_X8_sideOf (v1 : Int32) (M : Mem) : Option (Int32 × Mem) :=
  (f_X8_sideOf_l4 FU) v1 0 0 M

def f_X8_best (v1 : Int32) (M : Mem) : Option (Int32 × Mem) :=
  (if v1 < 0 then some ((-100000), M) else (if v1 ≤ 7 then (f_X3_seek (-1) (-1) M).bind fun o3 => (if v1 = 0 then some ((o3 45 4), o3) else (if v1 = 1 then some ((o3 45 5), o3) else (if v1 = 2 then some ((o3 45 6), o3) else (if v1 = 3 then some ((o3 45 7), o3) else (if v1 = 4 then some ((o3 45 8), o3) else (if v1 = 5 then some ((o3 45 9), o3) else (if v1 = 6 then some ((o3 45 10), o3) else (f_X8_sideOf (o3 45 4) o3).bind fun o12 => some (o12.1, o12.2)))))))) else some ((-100000), M)))

def f_X8_leave_b68 (r : Int32 → Int32 → Int32 → Int32 → Mem → Option (Int32 × Mem)) (k74 : Int32 → Int32 → Int32 → Mem → Option (Int32 × Mem)) (v1 : Int32) (v2 : Int32) (v3 : Int32) (v4 : Int32) (M : Mem) : Option (Int32 × Mem) :=
  r v1 v2 v3 (v4 + 1) M
def f_X8_leave_b57 (r : Int32 → Int32 → Int32 → Int32 → Mem → Option (Int32 × Mem)) (k74 : Int32 → Int32 → Int32 → Mem → Option (Int32 × Mem)) (v1 : Int32) (v4 : Int32) (M : Mem) : Option (Int32 × Mem) :=
  (f_X8_leave_b68 r k74) v1 v4 (M 45 5) v4 M
def f_X8_leave_l19 (k74 : Int32 → Int32 → Int32 → Mem → Option (Int32 × Mem)) : Nat → Int32 → Int32 → Int32 → Int32 → Mem → Option (Int32 × Mem)
  | 0, _, _, _, _, _ => none
  | n + 1, v1, v2, v3, v4, M => (if (M 1 6) ≤ v4 then k74 v1 v2 v3 M else (f_X3_seek v4 (-1) M).bind fun o4 => (if v2 = (-1) then (f_X8_leave_b57 (f_X8_leave_l19 k74 n) k74) v1 v4 o4 else (if (o4 45 5) ≤ v3 then (f_X8_leave_b68 (f_X8_leave_l19 k74 n) k74) v1 v2 v3 v4 o4 else (f_X8_leave_b57 (f_X8_leave_l19 k74 n) k74) v1 v4 o4)))
def f_X8_leave_b74 (v1 : Int32) (v2 : Int32) (v3 : Int32) (M : Mem) : Option (Int32 × Mem) :=
  (if v1 = 0 then some (v2, M) else some (v3, M))
def f_X8_leave (v1 : Int32) (M : Mem) : Option (Int32 × Mem) :=
  (if v1 < 0 then some ((-100000), M) else (if v1 ≤ 1 then (f_X8_leave_l19 f_X8_leave_b74 FU) v1 (-1) 0 0 M else some ((-100000), M)))

def f_X8_buy_b78 (r : Int32 → Int32 → Int32 → Int32 → Int32 → Mem → Option (Int32 × Mem)) (k84 : Int32 → Int32 → Int32 → Mem → Option (Int32 × Mem)) (v1 : Int32) (v2 : Int32) (v3 : Int32) (v4 : Int32) (v5 : Int32) (M : Mem) : Option (Int32 × Mem) :=
  r v1 v2 v3 v4 (v5 + 1) M
def f_X8_buy_b66 (r : Int32 → Int32 → Int32 → Int32 → Int32 → Mem → Option (Int32 × Mem)) (k84 : Int32 → Int32 → Int32 → Mem → Option (Int32 × Mem)) (v1 : Int32) (v2 : Int32) (v5 : Int32) (M : Mem) : Option (Int32 × Mem) :=
  (f_X8_buy_b78 r k84) v1 v2 v5 (M 45 5) v5 M
def f_X8_buy_l27 (k84 : Int32 → Int32 → Int32 → Mem → Option (Int32 × Mem)) : Nat → Int32 → Int32 → Int32 → Int32 → Int32 → Mem → Option (Int32 × Mem)
  | 0, _, _, _, _, _, _ => none
  | n + 1, v1, v2, v3, v4, v5, M => (if 6 ≤ v5 then k84 v2 v3 v4 M else (f_X3_seek (-1) ((v1 * 6) + v5) M).bind fun o7 => (if v3 = (-1) then (f_X8_buy_b66 (f_X8_buy_l27 k84 n) k84) v1 v2 v5 o7 else (if (o7 45 5) ≤ v4 then (f_X8_buy_b78 (f_X8_buy_l27 k84 n) k84) v1 v2 v3 v4 v5 o7 else (f_X8_buy_b66 (f_X8_buy_l27 k84 n) k84) v1 v2 v5 o7)))
def f_X8_buy_b84 (v2 : Int32) (v3 : Int32) (v4 : Int32) (M : Mem) : Option (Int32 × Mem) :=
  (if v2 = 0 then some (v3, M) else some (v4, M))
def f_X8_buy (v1 : Int32) (v2 : Int32) (M : Mem) : Option (Int32 × Mem) :=
  (f_X8_isKitchen v1 M).bind fun o1 => (if o1.1 = 0 then some ((-100000), o1.2) else (if v2 < 0 then some ((-100000), o1.2) else (if v2 ≤ 1 then (f_X8_buy_l27 f_X8_buy_b84 FU) v1 v2 (-1) 0 0 o1.2 else some ((-100000), o1.2))))

def f_X8_lowestTerms_l8 (k39 : Int32 → Int32 → Int32 → Int32 → Mem → Option (Int64 × Mem)) : Nat → Int32 → Int32 → Int32 → Int32 → Int32 → Int32 → Mem → Option (Int64 × Mem)
  | 0, _, _, _, _, _, _, _ => none
  | n + 1, v0, v1, v2, v3, v4, v5, M => (if 64 ≤ v5 then k39 v0 v1 v2 v3 M else (if v4 = 0 then k39 v0 v1 v2 v3 M else ck (!(v4 == 0)) ((f_X8_lowestTerms_l8 k39 n) v0 v1 v2 v4 (jrem v3 v4) (v5 + 1) M)))
def f_X8_lowestTerms_b39 (v0 : Int32) (v1 : Int32) (v2 : Int32) (v3 : Int32) (M : Mem) : Option (Int64 × Mem) :=
  (if v1 = 0 then some ((-4611686018427387904), M) else (if v3 = 0 then some ((-4611686018427387904), M) else (if v2 = 0 then ck (!(v3 == 0)) (some ((((v0 / v3) : Int32).toInt64), M)) else ck (!(v3 == 0)) (some ((((v1 / v3) : Int32).toInt64), M)))))
def f_X8_lowestTerms (v0 : Int32) (v1 : Int32) (v2 : Int32) (M : Mem) : Option (Int64 × Mem) :=
  (f_X8_lowestTerms_l8 f_X8_lowestTerms_b39 FU) v0 v1 v2 v0 v1 0 M

def f_X8_share (v1 : Int32) (M : Mem) : Option (Int64 × Mem) :=
  (if v1 < 0 then some ((-4611686018427387904), M) else (if v1 ≤ 1 then (f_X3_seek (-1) (-1) M).bind fun o3 => (f_X4_play (o3 45 4) o3).bind fun o5 => (f_X8_lowestTerms (o5 43 4) (o5 43 3) v1 o5).bind fun o7 => some (o7.1, o7.2) else some ((-4611686018427387904), M)))

def f_X8_isSheet (v0 : Int32) (M : Mem) : Option (Int32 × Mem) :=
  (if v0 < 0 then some (0, M) else (if 4 ≤ v0 then some (0, M) else some (1, M)))

def f_X6_isMissing (q0 : Nat) (M : Mem) : Option (Int32 × Mem) :=
  ck (kd q0 == 5) ((if (M q0 0) = (-1) then some (1, M) else some (0, M)))

def f_X0_suppose (v1 : Int32) (v2 : Int32) (M : Mem) : Option Mem :=
  (if v1 = 1 then some (mu M 36 2 v2) else (if v1 = 2 then some (mu M 36 3 v2) else (if v1 = 3 then some (mu M 36 4 v2) else (if v1 = 4 then some (mu M 37 0 v2) else (if v1 = 5 then (f_X0_ruleBy v2 M).bind fun o6 => some o6 else some M)))))

def f_X0_firstOtherwise_b24 (r : Nat → Nat → Int32 → Mem → Option (Int32 × Mem)) (q1 : Nat) (q2 : Nat) (v3 : Int32) (s0 : Int32) (M : Mem) : Option (Int32 × Mem) :=
  ck (kd q1 == 5) (ck (kd (q1 + 1) == 10) (ck (inb v3 (ln (q1 + 1))) ((if (M (q1 + 1) (v3).toNatClampNeg) = s0 then r q1 q2 (v3 + 1) M else some (v3, M)))))
def f_X0_firstOtherwise_l2 : Nat → Nat → Nat → Int32 → Mem → Option (Int32 × Mem)
  | 0, _, _, _, _ => none
  | n + 1, q1, q2, v3, M => (if 2 ≤ v3 then some ((-1), M) else (f_X0_isCooked v3 q2 M).bind fun o2 => (if o2.1 = 0 then (f_X0_firstOtherwise_b24 (f_X0_firstOtherwise_l2 n)) q1 q2 v3 (-1) o2.2 else (f_X0_worth o2.2).bind fun o5 => (f_X0_firstOtherwise_b24 (f_X0_firstOtherwise_l2 n)) q1 q2 v3 o5.1 o5.2))
def f_X0_firstOtherwise (q1 : Nat) (q2 : Nat) (M : Mem) : Option (Int32 × Mem) :=
  (f_X0_firstOtherwise_l2 FU) q1 q2 0 M

def f_X8_guess_b99 (r : Int32 → Int32 → Int32 → Nat → Int32 → Int32 → Int32 → Int32 → Int32 → Mem → Option (Int32 × Mem)) (k105 : Int32 → Int32 → Int32 → Int32 → Mem → Option (Int32 × Mem)) (v1 : Int32) (v2 : Int32) (v3 : Int32) (q4 : Nat) (v5 : Int32) (v6 : Int32) (v7 : Int32) (v8 : Int32) (v9 : Int32) (M : Mem) : Option (Int32 × Mem) :=
  r v1 v2 v3 q4 v5 v6 v7 v8 (v9 + 1) M
def f_X8_guess_b97 (r : Int32 → Int32 → Int32 → Nat → Int32 → Int32 → Int32 → Int32 → Int32 → Mem → Option (Int32 × Mem)) (k105 : Int32 → Int32 → Int32 → Int32 → Mem → Option (Int32 × Mem)) (v1 : Int32) (v2 : Int32) (v3 : Int32) (q4 : Nat) (v5 : Int32) (v6 : Int32) (v7 : Int32) (v9 : Int32) (s0 : Int32) (M : Mem) : Option (Int32 × Mem) :=
  (f_X8_guess_b99 r k105) v1 v2 v3 q4 v5 v6 v7 s0 v9 M
def f_X8_guess_b39 (r : Int32 → Int32 → Int32 → Nat → Int32 → Int32 → Int32 → Int32 → Int32 → Mem → Option (Int32 × Mem)) (k105 : Int32 → Int32 → Int32 → Int32 → Mem → Option (Int32 × Mem)) (v1 : Int32) (v2 : Int32) (v3 : Int32) (q4 : Nat) (v5 : Int32) (v6 : Int32) (v7 : Int32) (v8 : Int32) (v9 : Int32) (s2 : Int32) (M : Mem) : Option (Int32 × Mem) :=
  (f_X0_takeUp s2 M).bind fun o3 => (f_X0_suppose v1 v9 o3).bind fun o5 => (f_X0_firstOtherwise q4 2 o5).bind fun o7 => (if o7.1 = (-1) then (if v8 = (-1) then (f_X8_guess_b97 r k105) v1 v2 v3 q4 v5 (v6 ||| (jshl 1 v9)) (v7 + 1) v9 v9 o7.2 else (f_X8_guess_b97 r k105) v1 v2 v3 q4 v5 (v6 ||| (jshl 1 v9)) (v7 + 1) v9 v8 o7.2) else (f_X8_guess_b99 r k105) v1 v2 v3 q4 v5 v6 v7 v8 v9 o7.2)
def f_X8_guess_l12 (k105 : Int32 → Int32 → Int32 → Int32 → Mem → Option (Int32 × Mem)) : Nat → Int32 → Int32 → Int32 → Nat → Int32 → Int32 → Int32 → Int32 → Int32 → Mem → Option (Int32 × Mem)
  | 0, _, _, _, _, _, _, _, _, _, _ => none
  | n + 1, v1, v2, v3, q4, v5, v6, v7, v8, v9, M => (if v2 ≤ v9 then k105 v3 v6 v7 v8 M else (if v1 = 6 then (f_X8_guess_b39 (f_X8_guess_l12 k105 n) k105) v1 v2 v3 q4 v5 v6 v7 v8 v9 v9 M else (f_X8_guess_b39 (f_X8_guess_l12 k105 n) k105) v1 v2 v3 q4 v5 v6 v7 v8 v9 v5 M))
def f_X8_guess_b105 (v3 : Int32) (v6 : Int32) (v7 : Int32) (v8 : Int32) (M : Mem) : Option (Int32 × Mem) :=
  (if v3 = 0 then some (v6, M) else (if v3 = 1 then some (v7, M) else some (v8, M)))
def f_X8_guess (v1 : Int32) (v2 : Int32) (v3 : Int32) (q4 : Nat) (v5 : Int32) (M : Mem) : Option (Int32 × Mem) :=
  (f_X8_guess_l12 f_X8_guess_b105 FU) v1 v2 v3 q4 v5 0 0 (-1) 0 M

def f_X8_tells (v1 : Int32) (v2 : Int32) (v3 : Int32) (M : Mem) : Option (Int32 × Mem) :=
  (f_X8_isSheet v1 M).bind fun o1 => (if o1.1 = 0 then some ((-2), o1.2) else (f_X1_hasDish v2 o1.2).bind fun o4 => (if o4.1 = 0 then some ((-2), o4.2) else (if v3 < 0 then some ((-2), o4.2) else (if v3 ≤ 8 then ck (inb v1 4) ((f_X6_isMissing (55 + 2 * (v1).toNatClampNeg) o4.2).bind fun o10 => ck (kd (55 + 2 * (v1).toNatClampNeg) == 5) ((if o10.1 = 0 then (if (o10.2 (55 + 2 * (v1).toNatClampNeg) 1) = 2 then (if v3 = 1 then (f_X8_guess 1 6 0 (55 + 2 * (v1).toNatClampNeg) v2 o10.2).bind fun o16 => some (o16.1, o16.2) else (if v3 = 2 then (f_X8_guess 2 10 0 (55 + 2 * (v1).toNatClampNeg) v2 o10.2).bind fun o19 => some (o19.1, o19.2) else (if v3 = 3 then (f_X8_guess 3 100 1 (55 + 2 * (v1).toNatClampNeg) v2 o10.2).bind fun o22 => some (o22.1, o22.2) else (if v3 = 4 then (f_X8_guess 3 100 2 (55 + 2 * (v1).toNatClampNeg) v2 o10.2).bind fun o25 => some (o25.1, o25.2) else (if v3 = 5 then (f_X8_guess 4 100 1 (55 + 2 * (v1).toNatClampNeg) v2 o10.2).bind fun o28 => some (o28.1, o28.2) else (if v3 = 6 then (f_X8_guess 4 100 2 (55 + 2 * (v1).toNatClampNeg) v2 o10.2).bind fun o31 => some (o31.1, o31.2) else (if v3 = 7 then (f_X8_guess 5 (o10.2 0 4) 0 (55 + 2 * (v1).toNatClampNeg) v2 o10.2).bind fun o34 => some (o34.1, o34.2) else (if v3 = 8 then (f_X8_guess 6 (o10.2 1 6) 0 (55 + 2 * (v1).toNatClampNeg) v2 o10.2).bind fun o37 => some (o37.1, o37.2) else (f_X0_takeUp v2 o10.2).bind fun o39 => (f_X0_firstOtherwise (55 + 2 * (v1).toNatClampNeg) 2 o39).bind fun o41 => some (o41.1, o41.2))))))))) else some ((-2), o10.2)) else some ((-11), o10.2)))) else some ((-2), o4.2)))))

def f_X6_become_l12 : Nat → Nat → Int32 → Mem → Option Mem
  | 0, _, _, _ => none
  | n + 1, q0, v3, M => (if 40 ≤ v3 then some M else ck (kd q0 == 5) (ck (kd (q0 + 1) == 10) (ck (inb v3 (ln (q0 + 1))) ((f_X6_become_l12 n) q0 (v3 + 1) (mu M (q0 + 1) (v3).toNatClampNeg 0)))))
def f_X6_become (q0 : Nat) (v1 : Int32) (v2 : Int32) (M : Mem) : Option Mem :=
  ck (kd q0 == 5) ((f_X6_become_l12 FU) q0 0 (mu (mu M q0 0 v1) q0 1 v2))

def f_X6_hasItem (q0 : Nat) (v1 : Int32) (M : Mem) : Option (Int32 × Mem) :=
  (if v1 < 0 then some (0, M) else ck (kd q0 == 5) ((if (M q0 1) ≤ v1 then some (0, M) else some (1, M))))

def f_X6_put (q0 : Nat) (v1 : Int32) (v2 : Int32) (M : Mem) : Option Mem :=
  (f_X6_hasItem q0 v1 M).bind fun o1 => ck (kd q0 == 5) ((if o1.1 = 0 then some o1.2 else (if (o1.2 q0 0) = 0 then ck (kd (q0 + 1) == 10) (ck (inb v1 (ln (q0 + 1))) (some (mu o1.2 (q0 + 1) (v1).toNatClampNeg ((v2).toInt8.toInt32)))) else (if (o1.2 q0 0) = 1 then ck (kd (q0 + 1) == 10) (ck (inb v1 (ln (q0 + 1))) (some (mu o1.2 (q0 + 1) (v1).toNatClampNeg ((v2).toInt16.toInt32)))) else ck (kd (q0 + 1) == 10) (ck (inb v1 (ln (q0 + 1))) (some (mu o1.2 (q0 + 1) (v1).toNatClampNeg v2)))))))

def f_X8_film_b110 (r : Nat → Int32 → Int32 → Mem → Option (Int32 × Mem)) (q3 : Nat) (v5 : Int32) (s0 : Int32) (s1 : Int32) (M : Mem) : Option (Int32 × Mem) :=
  r q3 (s0 + s1) (v5 + 1) M
def f_X8_film_b95 (r : Nat → Int32 → Int32 → Mem → Option (Int32 × Mem)) (q3 : Nat) (v4 : Int32) (v5 : Int32) (v6 : Int32) (s0 : Nat) (s1 : Int32) (s2 : Int32) (M : Mem) : Option (Int32 × Mem) :=
  (f_X6_put s0 s1 s2 M).bind fun o19 => ck (kd s0 == 5) ((if v6 = 0 then (f_X8_film_b110 r) q3 v5 v4 0 o19 else (f_X8_film_b110 r) q3 v5 v4 1 o19))
def f_X8_film_l52 : Nat → Nat → Int32 → Int32 → Mem → Option (Int32 × Mem)
  | 0, _, _, _, _ => none
  | n + 1, q3, v4, v5, M => (if 2 ≤ v5 then some (v4, M) else (f_X0_isCooked v5 2 M).bind fun o14 => (if o14.1 = 0 then (f_X8_film_b95 (f_X8_film_l52 n)) q3 v4 v5 o14.1 q3 v5 (-1) o14.2 else (f_X0_worth o14.2).bind fun o17 => (f_X8_film_b95 (f_X8_film_l52 n)) q3 v4 v5 o14.1 q3 v5 o17.1 o17.2))
def f_X8_film (v1 : Int32) (v2 : Int32) (M : Mem) : Option (Int32 × Mem) :=
  (f_X8_isSheet v1 M).bind fun o1 => (if o1.1 = 0 then some ((-2), o1.2) else (f_X1_hasDish v2 o1.2).bind fun o4 => (if o4.1 = 0 then some ((-2), o4.2) else ck (inb v1 4) ((f_X6_become (55 + 2 * (v1).toNatClampNeg) 2 2 o4.2).bind fun o8 => ck (kd (55 + 2 * (v1).toNatClampNeg) == 5) ((f_X0_takeUp v2 o8).bind fun o11 => (f_X8_film_l52 FU) (55 + 2 * (v1).toNatClampNeg) 0 0 o11))))

def f_X4_draw_b51 (r : Int32 → Int32 → Mem → Option (Int32 × Mem)) (k57 : Mem → Option (Int32 × Mem)) (v2 : Int32) (v3 : Int32) (M : Mem) : Option (Int32 × Mem) :=
  r v2 (v3 + 1) M
def f_X4_draw_l8 (k57 : Mem → Option (Int32 × Mem)) : Nat → Int32 → Int32 → Mem → Option (Int32 × Mem)
  | 0, _, _, _ => none
  | n + 1, v2, v3, M => (if (M 1 6) ≤ v3 then k57 M else (if ((jrem (jushr ((v2 * 1103515245) + 12345) 9) 3) - 1) < 0 then (f_X4_draw_b51 (f_X4_draw_l8 k57 n) k57) ((v2 * 1103515245) + 12345) v3 M else (f_X4_goOn v3 ((jrem (jushr ((v2 * 1103515245) + 12345) 9) 3) - 1) M).bind fun o5 => (f_X4_draw_b51 (f_X4_draw_l8 k57 n) k57) ((v2 * 1103515245) + 12345) v3 o5.2))
def f_X4_draw_b57 (M : Mem) : Option (Int32 × Mem) :=
  some (((M 43 3) - (M 43 5)), M)
def f_X4_draw (v1 : Int32) (M : Mem) : Option (Int32 × Mem) :=
  (f_X4_begin M).bind fun o1 => (f_X4_draw_l8 f_X4_draw_b57 FU) v1 0 o1

def f_X8_drawn (v1 : Int32) (M : Mem) : Option (Int32 × Mem) :=
  (f_X4_draw v1 M).bind fun o1 => some (o1.1, o1.2)

def f_X8_chance_b70 (r : Int32 → Int32 → Int32 → Int32 → Int32 → Int32 → Mem → Option (Int64 × Mem)) (k76 : Int32 → Int32 → Int32 → Mem → Option (Int64 × Mem)) (v1 : Int32) (v2 : Int32) (v3 : Int32) (v4 : Int32) (v5 : Int32) (v6 : Int32) (M : Mem) : Option (Int64 × Mem) :=
  r v1 v2 v3 v4 v5 (v6 + 1) M
def f_X8_chance_l46 (k76 : Int32 → Int32 → Int32 → Mem → Option (Int64 × Mem)) : Nat → Int32 → Int32 → Int32 → Int32 → Int32 → Int32 → Mem → Option (Int64 × Mem)
  | 0, _, _, _, _, _, _, _ => none
  | n + 1, v1, v2, v3, v4, v5, v6, M => (if v2 ≤ v6 then k76 v2 v4 v5 M else (f_X4_draw (v1 + v6) M).bind fun o8 => (if o8.1 < v3 then (f_X8_chance_b70 (f_X8_chance_l46 k76 n) k76) v1 v2 v3 v4 v5 v6 o8.2 else (f_X8_chance_b70 (f_X8_chance_l46 k76 n) k76) v1 v2 v3 v4 (v5 + 1) v6 o8.2))
def f_X8_chance_b76 (v2 : Int32) (v4 : Int32) (v5 : Int32) (M : Mem) : Option (Int64 × Mem) :=
  (f_X8_lowestTerms v5 v2 v4 M).bind fun o11 => some (o11.1, o11.2)
def f_X8_chance (v1 : Int32) (v2 : Int32) (v3 : Int32) (v4 : Int32) (M : Mem) : Option (Int64 × Mem) :=
  (if v2 < 1 then some ((-4611686018427387904), M) else (if 20 < v2 then some ((-4611686018427387904), M) else (if v3 < (-9999) then some ((-4611686018427387904), M) else (if 9999 < v3 then some ((-4611686018427387904), M) else (if v4 < 0 then some ((-4611686018427387904), M) else (if v4 ≤ 1 then (f_X8_chance_l46 f_X8_chance_b76 FU) v1 v2 v3 v4 0 0 M else some ((-4611686018427387904), M)))))))

def f_X1_become_1 (M : Mem) : Option Mem :=
  some (mu (mu (mu (mcp (mcp (mcp (mcp (mcp (mcp M 9 0 2 0 12) 10 0 3 0 2) 11 0 4 0 6) 12 0 5 0 6) 13 0 6 0 6) 14 0 7 0 6) 1 6 (M 8 6)) 1 7 (M 8 7)) 1 8 (M 8 8))

def f_X1_become_8 (M : Mem) : Option Mem :=
  some (mu (mu (mu (mcp (mcp (mcp (mcp (mcp (mcp M 2 0 9 0 12) 3 0 10 0 2) 4 0 11 0 6) 5 0 12 0 6) 6 0 13 0 6) 7 0 14 0 6) 8 6 (M 1 6)) 8 7 (M 1 7)) 8 8 (M 1 8))

def f_X8_image (M : Mem) : Option (Int32 × Mem) :=
  (f_X1_become_8 M).bind fun o1 => some ((o1 1 6), (mu o1 0 2 1))

def f_X8_back (M : Mem) : Option (Int32 × Mem) :=
  (if (M 0 2) = 0 then some ((-3), M) else (f_X1_become_1 M).bind fun o2 => some ((o2 1 6), o2))

def f_X8_count (v1 : Int32) (M : Mem) : Option (Int32 × Mem) :=
  (if v1 = 0 then some ((M 1 6), M) else (if v1 = 1 then (f_X1_storeOf 0 M).bind fun o3 => (f_X1_storeOf 1 o3.2).bind fun o5 => some ((o3.1 + o5.1), o5.2) else (if v1 = 2 then some ((M 1 7), M) else (if v1 = 3 then some ((M 0 4), M) else (if v1 = 4 then some ((M 34 1), M) else (if v1 = 5 then some ((M 1 8), M) else some ((-2), M)))))))

def f_X8_sheet (v1 : Int32) (v2 : Int32) (v3 : Int32) (M : Mem) : Option (Int32 × Mem) :=
  (f_X8_isSheet v1 M).bind fun o1 => (if o1.1 = 0 then some ((-2), o1.2) else (if v2 < (-1) then some ((-2), o1.2) else (if v2 ≤ 2 then (if v2 = (-1) then ck (inb v1 4) ((f_X6_become (55 + 2 * (v1).toNatClampNeg) (-1) 0 o1.2).bind fun o14 => ck (kd (55 + 2 * (v1).toNatClampNeg) == 5) (some (1, o14))) else (if v3 ≤ 40 then (if 0 ≤ v3 then ck (inb v1 4) ((f_X6_become (55 + 2 * (v1).toNatClampNeg) v2 v3 o1.2).bind fun o10 => ck (kd (55 + 2 * (v1).toNatClampNeg) == 5) (some (1, o10))) else some ((-14), o1.2)) else some ((-2), o1.2))) else some ((-2), o1.2))))

def f_X8_cell (v1 : Int32) (v2 : Int32) (v3 : Int32) (M : Mem) : Option (Int32 × Mem) :=
  (f_X8_isSheet v1 M).bind fun o1 => (if o1.1 = 0 then some ((-2), o1.2) else ck (inb v1 4) ((f_X6_isMissing (55 + 2 * (v1).toNatClampNeg) o1.2).bind fun o5 => ck (kd (55 + 2 * (v1).toNatClampNeg) == 5) ((if o5.1 = 0 then (f_X6_hasItem (55 + 2 * (v1).toNatClampNeg) v2 o5.2).bind fun o9 => (if o9.1 = 0 then some ((-12), o9.2) else (f_X6_put (55 + 2 * (v1).toNatClampNeg) v2 v3 o9.2).bind fun o12 => some (1, o12)) else some ((-11), o5.2)))))

def f_X6_hasRun (q0 : Nat) (v1 : Int32) (v2 : Int32) (M : Mem) : Option (Int32 × Mem) :=
  (if v1 < 0 then some (0, M) else (if v2 < 0 then some (0, M) else ck (kd q0 == 5) ((if (M q0 1) < v1 then some (0, M) else (if ((M q0 1) - v1) < v2 then some (0, M) else some (1, M))))))

def f_X8_copy (v1 : Int32) (v2 : Int32) (v3 : Int32) (v4 : Int32) (v5 : Int32) (M : Mem) : Option (Int32 × Mem) :=
  (f_X8_isSheet v1 M).bind fun o1 => (if o1.1 = 0 then some ((-2), o1.2) else (f_X8_isSheet v3 o1.2).bind fun o4 => (if o4.1 = 0 then some ((-2), o4.2) else ck (inb v1 4) (ck (inb v3 4) ((f_X6_isMissing (55 + 2 * (v1).toNatClampNeg) o4.2).bind fun o9 => ck (kd (55 + 2 * (v1).toNatClampNeg) == 5) ((if o9.1 = 0 then (f_X6_isMissing (55 + 2 * (v3).toNatClampNeg) o9.2).bind fun o13 => ck (kd (55 + 2 * (v3).toNatClampNeg) == 5) ((if o13.1 = 0 then (if (o13.2 (55 + 2 * (v1).toNatClampNeg) 0) = (o13.2 (55 + 2 * (v3).toNatClampNeg) 0) then (f_X6_hasRun (55 + 2 * (v1).toNatClampNeg) v2 v5 o13.2).bind fun o18 => (if o18.1 = 0 then some ((-12), o18.2) else (f_X6_hasRun (55 + 2 * (v3).toNatClampNeg) v4 v5 o18.2).bind fun o21 => (if o21.1 = 0 then some ((-12), o21.2) else ck (kd ((55 + 2 * (v1).toNatClampNeg) + 1) == 10) (ck (kd ((55 + 2 * (v3).toNatClampNeg) + 1) == 10) (ck (cpk v2 (ln ((55 + 2 * (v1).toNatClampNeg) + 1)) v4 (ln ((55 + 2 * (v3).toNatClampNeg) + 1)) v5) (some (v5, (mcp o21.2 ((55 + 2 * (v1).toNatClampNeg) + 1) (v2).toNatClampNeg ((55 + 2 * (v3).toNatClampNeg) + 1) (v4).toNatClampNeg (v5).toNatClampNeg))))))) else some ((-13), o13.2)) else some ((-11), o13.2))) else some ((-11), o9.2)))))))

def f_X8_dishes_b139 (r : Int32 → Int32 → Nat → Int32 → Int32 → Mem → Option (Int32 × Mem)) (v3 : Int32) (v4 : Int32) (q5 : Nat) (v6 : Int32) (v7 : Int32) (M : Mem) : Option (Int32 × Mem) :=
  r v3 v4 q5 v6 (v7 + 1) M
def f_X8_dishes_l68 : Nat → Int32 → Int32 → Nat → Int32 → Int32 → Mem → Option (Int32 × Mem)
  | 0, _, _, _, _, _, _ => none
  | n + 1, v3, v4, q5, v6, v7, M => (if v4 ≤ v7 then some (v6, M) else (f_X6_hasRun q5 v3 ((3 * v7) + 3) M).bind fun o15 => ck (kd q5 == 5) ((if o15.1 = 0 then some ((-12), o15.2) else ck (kd (q5 + 1) == 10) (ck (inb (v3 + (3 * v7)) (ln (q5 + 1))) (ck (inb ((v3 + (3 * v7)) + 1) (ln (q5 + 1))) (ck (inb ((v3 + (3 * v7)) + 2) (ln (q5 + 1))) ((f_X8_dish (o15.2 (q5 + 1) ((v3 + (3 * v7))).toNatClampNeg) (o15.2 (q5 + 1) (((v3 + (3 * v7)) + 1)).toNatClampNeg) (o15.2 (q5 + 1) (((v3 + (3 * v7)) + 2)).toNatClampNeg) o15.2).bind fun o23 => (if o23.1 < 0 then (f_X8_dishes_b139 (f_X8_dishes_l68 n)) v3 v4 q5 v6 v7 o23.2 else (f_X8_dishes_b139 (f_X8_dishes_l68 n)) v3 v4 q5 (v6 + 1) v7 o23.2))))))))
def f_X8_dishes (v1 : Int32) (v2 : Int32) (v3 : Int32) (v4 : Int32) (M : Mem) : Option (Int32 × Mem) :=
  (f_X8_isSheet v1 M).bind fun o1 => (if o1.1 = 0 then some ((-2), o1.2) else (if v2 < 0 then some ((-2), o1.2) else (if 2 < v2 then some ((-2), o1.2) else (if v4 < 0 then some ((-2), o1.2) else (if v4 ≤ 6 then ck (inb v1 4) ((f_X6_isMissing (55 + 2 * (v1).toNatClampNeg) o1.2).bind fun o9 => ck (kd (55 + 2 * (v1).toNatClampNeg) == 5) ((if o9.1 = 0 then (if (o9.2 (55 + 2 * (v1).toNatClampNeg) 0) = v2 then (f_X8_dishes_l68 FU) v3 v4 (55 + 2 * (v1).toNatClampNeg) 0 0 o9.2 else some ((-13), o9.2)) else some ((-11), o9.2)))) else some ((-2), o1.2))))))

def f_X2_isUnder_l4 : Nat → Int32 → Int32 → Int32 → Mem → Option (Int32 × Mem)
  | 0, _, _, _, _ => none
  | n + 1, v1, v2, v3, M => (if 6 ≤ v3 then some (0, M) else (if v2 < 0 then some (0, M) else (if 6 ≤ v2 then some (0, M) else (if v2 = v1 then some (1, M) else ck (inb v2 6) ((f_X2_isUnder_l4 n) v1 (stv 2001 (v2).toNatClampNeg) (v3 + 1) M)))))
def f_X2_isUnder (v0 : Int32) (v1 : Int32) (M : Mem) : Option (Int32 × Mem) :=
  (f_X2_isUnder_l4 FU) v1 v0 0 M

def f_X8_taken (v1 : Int32) (v2 : Int32) (M : Mem) : Option (Int32 × Mem) :=
  (if v2 < 0 then some ((-2), M) else (if v2 < 6 then (f_X1_hasDish v1 M).bind fun o3 => (if o3.1 = 0 then some ((-11), o3.2) else ck (inb v1 6) ((f_X2_isUnder (o3.2 4 (v1).toNatClampNeg) v2 o3.2).bind fun o7 => (if o7.1 = 0 then some ((-13), o7.2) else some ((o7.2 5 (v1).toNatClampNeg), o7.2)))) else some ((-2), M)))
end
section
/-! THE MACHINE OVER A MEMORY: the cells are made of (place -> numbers); a row an instruction -/
/-- what an object of class ci at place p holds: f its numbers, A the addresses of places -/
def fld (ci p : Nat) (A : Nat → Nat) (f : Nat → Int32) : List Value := match ci with
  | 0 => [.ref (A 15), .ref (A (f 1).toNatClampNeg), .int (f 2), .int (f 3), .int (f 4), .ref (A 37), .ref (A 38), .int (f 7), .ref (A 39), .ref (A 40), .ref (A 41), .ref (A 42), .int (f 12), .int (f 13), .int (f 14), .int (f 15)]
  | 1 => [.ref (A (p + 1)), .ref (A (p + 2)), .ref (A (p + 3)), .ref (A (p + 4)), .ref (A (p + 5)), .ref (A (p + 6)), .int (f 6), .int (f 7), .int (f 8)]
  | 2 => [.ref (A 1), .ref (A 36), .ref (A 46), .int (f 3), .int (f 4), .int (f 5), .int (f 6), .int (f 7), .int (f 8), .int (f 9), .int (f 10)]
  | 3 => [.ref (A 1), .ref (A 36), .ref (A 44), .int (f 3), .int (f 4), .int (f 5), .int (f 6)]
  | 4 => [.ref (A 35), .int (f 1), .int (f 2), .int (f 3), .int (f 4), .int (f 5), .int (f 6)]
  | 5 => [.int (f 0), .int (f 1), .ref (A (p + 1))]
  | 6 => [.ref (A (p + 1)), .ref (A (p + 2)), .int (f 2)]
  | 7 => [.ref (A 1), .ref (A 8), .int (f 2), .ref (A 15), .int (f 4), .ref (A 34), .ref (A 36), .ref (A 43), .ref (A 45), .ref (A 54)]
  | _ => [.int (f 0), .ref (A 101), .ref (A 102), .int (f 3), .int (f 4), .ref (A 103), .int (f 6), .int (f 7), .ref (A 104), .ref (A 105), .ref (A 106), .ref (A 107), .int (f 12), .int (f 13), .int (f 14), .int (f 15), .int (f 16), .int (f 17), .int (f 18), .int (f 19), .int (f 20), .int (f 21), .int (f 22), .int (f 23), .long (f 24).toInt64, .int (f 25), .int (f 26), .int (f 27), .ref (A 108), .ref (A 109), .int (f 30), .int (f 31), .int (f 32), .int (f 33), .int (f 34), .int (f 35), .int (f 36), .int (f 37), .ref (A 110), .ref (A 111), .ref (A 112), .ref (A 113), .int (f 42), .int (f 43), .int (f 44), .ref (A 114), .ref (A 115), .ref (A 116), .ref (A 117)]
def mcell (cA : Nat → ClassId) (A : Nat → Nat) (f : Nat → Int32) (p : Nat) : va_E :=
  if kd p < 9 then .inr (kd p, fld (kd p) p A f)
  else if kd p = 11 ∨ kd p = 21 then .inl (cA 1, ln p, .inl f)
  else if kd p = 12 then .inl (cA 2, ln p, .inr (.inr (.inr (.inr (fun i => some (A (16 + 3 * i)))))))
  else if kd p = 13 then .inl (cA 3, ln p, .inr (.inr (.inr (.inr (fun i => some (A (55 + 2 * i)))))))
  else if kd p = 14 then .inl (cA 4, ln p, .inr (.inr (.inr (.inr (fun i => some (A (47 + i)))))))
  else .inl (cA 0, ln p, .inl f)
def enc (cA : Nat → ClassId) (A : Nat → Nat) (M : Mem) (Pl : List Nat) : va_W := Pl.map (fun p => (A p, mcell cA A (M p) p))
def tyL (cA : Nat → ClassId) : List (ClassId × FieldType) := [(cA 0, .int), (cA 1, .boolean), (cA 2, .object RX7), (cA 3, .object RX6), (cA 4, .array .int)]
/-- the places are apart, and of a kind -/
def DD (F : Nat → Prop) (A : Nat → Nat) (Pl : List Nat) : Prop := (∀ i j p q : Nat, Pl[i]? = some p → Pl[j]? = some q → A p = A q → i = j) ∧ ∀ p, p ∈ Pl → F (A p)
def FA (A : Nat → Nat) (Pl : List Nat) : Nat → Prop := fun q => ∃ p, p ∈ Pl ∧ q = A p
/-- the good words of the tables -/
def WT : List Cond := lw_tbl.filter goodWord
theorem wtm (i : Nat) {w : Cond} (h : lw_tbl[i]? = some w ∧ goodWord w = true) : w ∈ WT := List.mem_filter.mpr ⟨List.mem_of_getElem? h.1, h.2⟩
theorem wt_good {w : Cond} (h : w ∈ WT) : goodWord w = true := (List.mem_filter.mp h).2
def WS (y : MethodName) (cb : ByteArray) (nM : Nat) (rt : Option FieldType) : List Cond := Cond.code y cb nM rt :: WT
def RM (h : Nat) : Room := { frames := h, cells := 0, slots := 0, locals := 64 * h }
/-- the constants that the code reads: two rows of numbers, the texts, links to a nest mate's rows -/
def sLens : List Nat := strs.map (fun s => s.length)
def sByts : List (List Int32) := strs.map (fun s => s.map (fun c => Int32.ofNat c))
def sIdx : List (String × Nat × String) := [(RX5, 90, "part"), (RX5, 100, "much"), (RX5, 102, "kitchen"), (RX5, 104, "hour"), (RX5, 106, "number"), (RX5, 108, "pride"), (RX5, 110, "feeds"), (RX5, 112, "tolls"), (RX5, 114, "signs"), (RX5, 116, "or"), (RX5, 118, "and"), (RX5, 120, "not"), (RX8, 48, "feeds much * 2 ; tolls much ; signs 1 ;")]
def SO (F : Nat → Prop) (A : Nat → Nat) (U : State) (H : Heap) : Prop :=
  (va_Z RX8 "POWERS" "[I" (.ref (A 2000)) F U H ∧ va_T .int (A 2000) 6 (fun j => .int (stv 2000 j)) F U H) ∧
  (va_Z RX8 "UNDER" "[I" (.ref (A 2001)) F U H ∧ va_T .int (A 2001) 6 (fun j => .int (stv 2001 j)) F U H) ∧
  vk_S 13 sLens sByts (fun i => A (1000 + i)) (fun i => A (1100 + i)) F U H ∧
  (∀ i x, sIdx[i]? = some x → vk_R x.1 x.2.1 x.2.2 (A (1000 + i)) U) ∧
  va_Nw (.fieldLinkNest RX1 40 RX8 "POWERS" "[I" RX8) U ∧ va_Nw (.fieldLinkNest RX2 18 RX8 "UNDER" "[I" RX8) U
theorem SO.same {F : Nat → Prop} {A : Nat → Nat} {u U : State} {H : Heap} (hv : u.vm = U.vm) (h : SO F A u H) : SO F A U H := by
  obtain ⟨⟨a1, a2⟩, ⟨b1, b2⟩, c, d, e1, e2⟩ := h
  have ha : u.vm.Alike U.vm := by rw [hv]; exact Vm.Alike.refl _
  exact ⟨⟨va_Z.moved ha a1, va_T.moved ha a2⟩, ⟨va_Z.moved ha b1, va_T.moved ha b2⟩, vk_S.moved ha c, fun i x hx => vk_R.same hv.symm (d i x hx), va_Nw.same rfl hv e1, va_Nw.same rfl hv e2⟩
theorem SO.warm {F : Nat → Prop} {A : Nat → Nat} {s U : State} {H : Heap} (hW : s.WarmedH U.vm) (h : SO F A s H) : SO F A U H := by
  obtain ⟨⟨a1, a2⟩, ⟨b1, b2⟩, c, d, e1, e2⟩ := h
  have ha : s.vm.Alike U.vm := hW.alike
  exact ⟨⟨va_Z.moved ha a1, va_T.moved ha a2⟩, ⟨va_Z.moved ha b1, va_T.moved ha b2⟩, vk_S.moved ha c, fun i x hx => vk_R.warm hW (d i x hx), va_Nw.warmF hW e1, va_Nw.warmF hW e2⟩
theorem SO.kept {F : Nat → Prop} {A : Nat → Nat} {U : State} {H H1 : Heap} (h : SO F A U H) (hq : ∀ a : Nat, a < H.size → ¬ F a → H1[a]? = H[a]?) : SO F A U H1 := by
  obtain ⟨⟨a1, a2⟩, ⟨b1, b2⟩, c, d, e1, e2⟩ := h
  exact ⟨⟨a1.kept hq, a2.kept hq⟩, ⟨b1.kept hq, b2.kept hq⟩, c.kept hq, d, e1, e2⟩
theorem SO.narrow {F G : Nat → Prop} {A : Nat → Nat} {U : State} {H : Heap} (h : SO F A U H) (hq : ∀ q, G q → F q) : SO G A U H := by
  obtain ⟨⟨a1, a2⟩, ⟨b1, b2⟩, c, d, e1, e2⟩ := h
  exact ⟨⟨a1.narrow hq, a2.narrow hq⟩, ⟨b1.narrow hq, b2.narrow hq⟩, c.narrow hq, d, e1, e2⟩
/-- what holds throughout a method -/
def Cx (p : Program) (s : State) (m : MethodId) (args : Array Value) (meth : Method) (c : Code) (cc : ByteArray) (own : String) (nL : Nat) (D : va_G) (cA : Nat → ClassId) (A : Nat → Nat) (Pl : List Nat) (F : Nat → Prop) : Prop :=
  (p.tables.exec = Jvm.exec ∧ c.code = cc ∧ c.maxLocals = nL ∧ s.vm.findClass own = some m.cls) ∧ (∀ w ∈ WT, w.before args s = true) ∧ meth.locks = false ∧ va_K D vwCl (tyL cA) s ∧ DD F A Pl ∧ SO F A s s.heap
def WM (p : Program) (l : Launch) (e : Env) (R : Room) (s : State) (m : MethodId) (args : Array Value) (below : List Frame) (meth : Method) (c : Code) (cells slots : Nat) (Q : State → Prop) (D : va_G) (cA : Nat → ClassId) (A : Nat → Nat) (Pl : List Nat) (F : Nat → Prop) (nL : Nat) (M : Mem) (pc : Nat) (lv : List (Nat × Value)) (st : List Value) : Prop :=
  ∀ (H : Heap) (locs : List Loc), va_P D vwCl (enc cA A M Pl) H → va_S F s.heap H locs → ∀ ls : Array Slot, lv_has ls nL lv → W p l e R s m args below meth c H locs cells slots Q (F0 m pc ls st)
theorem ckd {α : Type} {b : Bool} {x : Option α} {o : α} (h : ck b x = some o) : b = true ∧ x = some o := by
  unfold ck at h
  by_cases hb : b = true
  · rw [if_pos hb] at h; exact ⟨hb, h⟩
  · rw [if_neg hb] at h; cases h
theorem bnd {α β : Type} {x : Option α} {f : α → Option β} {o : β} (h : x.bind f = some o) : ∃ a, x = some a ∧ f a = some o := Option.bind_eq_some_iff.mp h
theorem inb_vp {i : Int32} {n : Nat} (h : inb i n = true) : vp_in i n := by
  unfold inb at h
  have := Bool.and_eq_true_iff.mp h
  intro q
  rcases q with q | q
  · exact of_decide_eq_true this.1 q
  · exact Nat.not_lt.mpr q (of_decide_eq_true this.2)
theorem zb_v {x : Int32} (h : zb x = true) : x = 0 ∨ x = 1 := by
  unfold zb at h
  rcases Bool.or_eq_true_iff.mp h with h | h
  · exact Or.inl (eq_of_beq h)
  · exact Or.inr (eq_of_beq h)
theorem zb_n {x : Int32} (h : zb x = true) : narrow .boolean (.int x) = .int x := by
  rcases zb_v h with rfl | rfl <;> rfl
theorem zb_f {x : Int32} (h : zb x = true) : fits .boolean (.int x) = true := by
  rcases zb_v h with rfl | rfl <;> rfl
theorem zb_p {x : Int32} (h : zb x = true) : vp_nar .boolean x = x := by
  rcases zb_v h with rfl | rfl <;> rfl
theorem nz0 {x : Int32} (h : (!(x == 0)) = true) : ¬ x = 0 := by
  intro e; subst e; exact absurd h (by decide)
theorem nzl0 {x : Int64} (h : (!(x == 0)) = true) : ¬ x = 0 := by
  intro e; subst e; exact absurd h (by decide)
theorem rsw {n : Nat} (h : n < 63) : (Int32.ofNat n).toNatClampNeg = n := nI_clamp (by omega)
-- lists of cells
theorem enc_get {cA : Nat → ClassId} {A : Nat → Nat} {M : Mem} {Pl : List Nat} {p : Nat} (h : p ∈ Pl) : ∃ i : Nat, Pl[i]? = some p ∧ (enc cA A M Pl)[i]? = some (A p, mcell cA A (M p) p) := by
  obtain ⟨i, hi⟩ := List.getElem?_of_mem h
  exact ⟨i, hi, by unfold enc; rw [List.getElem?_map, hi]; rfl⟩
theorem enc_D {cA : Nat → ClassId} {A : Nat → Nat} {M : Mem} {Pl : List Nat} {F : Nat → Prop} (h : DD F A Pl) : va_D F (enc cA A M Pl) := by
  refine ⟨fun i j x y hx hy e => ?_, fun k x hx => ?_⟩
  · unfold enc at hx hy
    rw [List.getElem?_map] at hx hy
    cases hp : Pl[i]? with
    | none => rw [hp] at hx; cases hx
    | some p =>
      cases hq : Pl[j]? with
      | none => rw [hq] at hy; cases hy
      | some q =>
        rw [hp] at hx; rw [hq] at hy
        cases hx; cases hy
        exact h.1 i j p q hp hq e
  · unfold enc at hx
    rw [List.getElem?_map] at hx
    cases hp : Pl[k]? with
    | none => rw [hp] at hx; cases hx
    | some p =>
      rw [hp] at hx
      cases hx
      exact h.2 p (List.mem_of_getElem? hp)
theorem enc_set {cA : Nat → ClassId} {A : Nat → Nat} {M M1 : Mem} {Pl : List Nat} {F : Nat → Prop} {p i : Nat} (h : DD F A Pl) (hi : Pl[i]? = some p) (ho : ∀ q, q ≠ p → M1 q = M q) {x : va_E} (hx : x = mcell cA A (M1 p) p) : (enc cA A M Pl).set i (A p, x) = enc cA A M1 Pl := by
  apply List.ext_getElem?
  intro j
  unfold enc
  rw [List.getElem?_set, List.getElem?_map, List.length_map]
  have hl : i < Pl.length := (List.getElem?_eq_some_iff.mp hi).1
  by_cases e : i = j
  · subst e
    rw [if_pos rfl, if_pos hl, List.getElem?_map, hi, hx]
    rfl
  · rw [if_neg e, List.getElem?_map]
    cases hj : Pl[j]? with
    | none => rfl
    | some q =>
      have hq : q ≠ p := by
        intro hq
        subst hq
        exact e (h.1 i j q q hi hj rfl)
      simp only [Option.map_some]
      rw [ho q hq]
theorem mu_same {M : Mem} {p k : Nat} {v : Int32} : mu M p k v p = upd (M p) k v := if_pos rfl
theorem mu_ne {M : Mem} {p q k : Nat} {v : Int32} (h : q ≠ p) : mu M p k v q = M q := if_neg h
theorem mc_obj {cA : Nat → ClassId} {A : Nat → Nat} {f : Nat → Int32} {p ci : Nat} (h : kd p = ci) (hc : ci < 9) : mcell cA A f p = .inr (ci, fld ci p A f) := by
  unfold mcell
  rw [h, if_pos hc]
def isI (K : Nat) : Bool := K == 10 || K == 20 || K == 30
def isZ (K : Nat) : Bool := K == 11 || K == 21
theorem mc_int {cA : Nat → ClassId} {A : Nat → Nat} {f : Nat → Int32} {p K : Nat} (h : kd p = K) (hc : isI K = true) : mcell cA A f p = .inl (cA 0, ln p, .inl f) := by
  have hK : K = 10 ∨ K = 20 ∨ K = 30 := by
    simp only [isI, Bool.or_eq_true, beq_iff_eq] at hc
    omega
  unfold mcell
  rw [h]
  rcases hK with rfl | rfl | rfl <;> rfl
theorem mc_bool {cA : Nat → ClassId} {A : Nat → Nat} {f : Nat → Int32} {p K : Nat} (h : kd p = K) (hc : isZ K = true) : mcell cA A f p = .inl (cA 1, ln p, .inl f) := by
  have hK : K = 11 ∨ K = 21 := by
    simp only [isZ, Bool.or_eq_true, beq_iff_eq] at hc
    omega
  unfold mcell
  rw [h]
  rcases hK with rfl | rfl <;> rfl
section ML
variable {p : Program} {l : Launch} {e : Env} {R : Room} {s : State} {m : MethodId} {args : Array Value} {below : List Frame} {meth : Method} {c : Code} {cells slots : Nat} {Q : State → Prop}
variable {cc : ByteArray} {own : String} {nL : Nat} {D : va_G} {cA : Nat → ClassId} {A : Nat → Nat} {Pl : List Nat} {F : Nat → Prop} {M : Mem} {pc : Nat} {lv : List (Nat × Value)} {st : List Value}
theorem wm_pick {lv1 : List (Nat × Value)} (ks : List Nat) (h : lv_pick lv ks = lv1) (kk : WM p l e R s m args below meth c cells slots Q D cA A Pl F nL M pc lv1 st) : WM p l e R s m args below meth c cells slots Q D cA A Pl F nL M pc lv st :=
  fun H locs hP hS ls hl => kk H locs hP hS ls (lv_sub hl ks h)
theorem wm_iconst {n : Int} {v : Int32} (C : Cx p s m args meth c cc own nL D cA A Pl F) (hdg : decode cc pc = .ok (.iconst n, 1)) (hv : Int32.ofInt n = v) (kk : WM p l e R s m args below meth c cells slots Q D cA A Pl F nL M (pc + 1) lv (.int v :: st)) : WM p l e R s m args below meth c cells slots Q D cA A Pl F nL M pc lv st :=
  fun H locs hP hS ls hl => lv_iconst C.1.1 C.1.2.1 hdg hv (kk H locs hP hS ls hl)
theorem wm_bipush {n : Int} {v : Int32} (C : Cx p s m args meth c cc own nL D cA A Pl F) (hdg : decode cc pc = .ok (.bipush n, 2)) (hv : (Int8.ofInt n).toInt32 = v) (kk : WM p l e R s m args below meth c cells slots Q D cA A Pl F nL M (pc + 2) lv (.int v :: st)) : WM p l e R s m args below meth c cells slots Q D cA A Pl F nL M pc lv st :=
  fun H locs hP hS ls hl => lv_bipush C.1.1 C.1.2.1 hdg hv (kk H locs hP hS ls hl)
theorem wm_sipush {n : Int} {v : Int32} (C : Cx p s m args meth c cc own nL D cA A Pl F) (hdg : decode cc pc = .ok (.sipush n, 3)) (hv : (Int16.ofInt n).toInt32 = v) (kk : WM p l e R s m args below meth c cells slots Q D cA A Pl F nL M (pc + 3) lv (.int v :: st)) : WM p l e R s m args below meth c cells slots Q D cA A Pl F nL M pc lv st :=
  fun H locs hP hS ls hl => lv_sipush C.1.1 C.1.2.1 hdg hv (kk H locs hP hS ls hl)
theorem wm_lconst {n : Fin 2} {v : Int64} (C : Cx p s m args meth c cc own nL D cA A Pl F) (hdg : decode cc pc = .ok (.lconst n, 1)) (hv : Int64.ofNat (n : Nat) = v) (kk : WM p l e R s m args below meth c cells slots Q D cA A Pl F nL M (pc + 1) lv (.long v :: st)) : WM p l e R s m args below meth c cells slots Q D cA A Pl F nL M pc lv st :=
  fun H locs hP hS ls hl => lv_lconst C.1.1 C.1.2.1 hdg hv (kk H locs hP hS ls hl)
theorem wm_iadd {x y : Int32} (C : Cx p s m args meth c cc own nL D cA A Pl F) (hdg : decode cc pc = .ok (.iadd, 1)) (kk : WM p l e R s m args below meth c cells slots Q D cA A Pl F nL M (pc + 1) lv (.int (x + y) :: st)) : WM p l e R s m args below meth c cells slots Q D cA A Pl F nL M pc lv (.int y :: .int x :: st) :=
  fun H locs hP hS ls hl => lv_iadd C.1.1 C.1.2.1 hdg (kk H locs hP hS ls hl)
theorem wm_isub {x y : Int32} (C : Cx p s m args meth c cc own nL D cA A Pl F) (hdg : decode cc pc = .ok (.isub, 1)) (kk : WM p l e R s m args below meth c cells slots Q D cA A Pl F nL M (pc + 1) lv (.int (x - y) :: st)) : WM p l e R s m args below meth c cells slots Q D cA A Pl F nL M pc lv (.int y :: .int x :: st) :=
  fun H locs hP hS ls hl => lv_isub C.1.1 C.1.2.1 hdg (kk H locs hP hS ls hl)
theorem wm_imul {x y : Int32} (C : Cx p s m args meth c cc own nL D cA A Pl F) (hdg : decode cc pc = .ok (.imul, 1)) (kk : WM p l e R s m args below meth c cells slots Q D cA A Pl F nL M (pc + 1) lv (.int (x * y) :: st)) : WM p l e R s m args below meth c cells slots Q D cA A Pl F nL M pc lv (.int y :: .int x :: st) :=
  fun H locs hP hS ls hl => lv_imul C.1.1 C.1.2.1 hdg (kk H locs hP hS ls hl)
theorem wm_iand {x y : Int32} (C : Cx p s m args meth c cc own nL D cA A Pl F) (hdg : decode cc pc = .ok (.iand, 1)) (kk : WM p l e R s m args below meth c cells slots Q D cA A Pl F nL M (pc + 1) lv (.int (x &&& y) :: st)) : WM p l e R s m args below meth c cells slots Q D cA A Pl F nL M pc lv (.int y :: .int x :: st) :=
  fun H locs hP hS ls hl => lv_iand C.1.1 C.1.2.1 hdg (kk H locs hP hS ls hl)
theorem wm_ior {x y : Int32} (C : Cx p s m args meth c cc own nL D cA A Pl F) (hdg : decode cc pc = .ok (.ior, 1)) (kk : WM p l e R s m args below meth c cells slots Q D cA A Pl F nL M (pc + 1) lv (.int (x ||| y) :: st)) : WM p l e R s m args below meth c cells slots Q D cA A Pl F nL M pc lv (.int y :: .int x :: st) :=
  fun H locs hP hS ls hl => lv_ior C.1.1 C.1.2.1 hdg (kk H locs hP hS ls hl)
theorem wm_ladd {x y : Int64} (C : Cx p s m args meth c cc own nL D cA A Pl F) (hdg : decode cc pc = .ok (.ladd, 1)) (kk : WM p l e R s m args below meth c cells slots Q D cA A Pl F nL M (pc + 1) lv (.long (x + y) :: st)) : WM p l e R s m args below meth c cells slots Q D cA A Pl F nL M pc lv (.long y :: .long x :: st) :=
  fun H locs hP hS ls hl => lv_ladd C.1.1 C.1.2.1 hdg (kk H locs hP hS ls hl)
theorem wm_lsub {x y : Int64} (C : Cx p s m args meth c cc own nL D cA A Pl F) (hdg : decode cc pc = .ok (.lsub, 1)) (kk : WM p l e R s m args below meth c cells slots Q D cA A Pl F nL M (pc + 1) lv (.long (x - y) :: st)) : WM p l e R s m args below meth c cells slots Q D cA A Pl F nL M pc lv (.long y :: .long x :: st) :=
  fun H locs hP hS ls hl => lv_lsub C.1.1 C.1.2.1 hdg (kk H locs hP hS ls hl)
theorem wm_lmul {x y : Int64} (C : Cx p s m args meth c cc own nL D cA A Pl F) (hdg : decode cc pc = .ok (.lmul, 1)) (kk : WM p l e R s m args below meth c cells slots Q D cA A Pl F nL M (pc + 1) lv (.long (x * y) :: st)) : WM p l e R s m args below meth c cells slots Q D cA A Pl F nL M pc lv (.long y :: .long x :: st) :=
  fun H locs hP hS ls hl => lv_lmul C.1.1 C.1.2.1 hdg (kk H locs hP hS ls hl)
theorem wm_ishl {x y : Int32} (C : Cx p s m args meth c cc own nL D cA A Pl F) (hdg : decode cc pc = .ok (.ishl, 1)) (kk : WM p l e R s m args below meth c cells slots Q D cA A Pl F nL M (pc + 1) lv (.int (jshl x y) :: st)) : WM p l e R s m args below meth c cells slots Q D cA A Pl F nL M pc lv (.int y :: .int x :: st) :=
  fun H locs hP hS ls hl => lv_ishl C.1.1 C.1.2.1 hdg (kk H locs hP hS ls hl)
theorem wm_iushr {x y : Int32} (C : Cx p s m args meth c cc own nL D cA A Pl F) (hdg : decode cc pc = .ok (.iushr, 1)) (kk : WM p l e R s m args below meth c cells slots Q D cA A Pl F nL M (pc + 1) lv (.int (jushr x y) :: st)) : WM p l e R s m args below meth c cells slots Q D cA A Pl F nL M pc lv (.int y :: .int x :: st) :=
  fun H locs hP hS ls hl => lv_iushr C.1.1 C.1.2.1 hdg rfl (kk H locs hP hS ls hl)
theorem wm_idiv {x y : Int32} (C : Cx p s m args meth c cc own nL D cA A Pl F) (hne : ¬ y = 0) (hdg : decode cc pc = .ok (.idiv, 1)) (kk : WM p l e R s m args below meth c cells slots Q D cA A Pl F nL M (pc + 1) lv (.int (x / y) :: st)) : WM p l e R s m args below meth c cells slots Q D cA A Pl F nL M pc lv (.int y :: .int x :: st) :=
  fun H locs hP hS ls hl => lv_idiv C.1.1 C.1.2.1 hdg hne (kk H locs hP hS ls hl)
theorem wm_irem {x y : Int32} (C : Cx p s m args meth c cc own nL D cA A Pl F) (hne : ¬ y = 0) (hdg : decode cc pc = .ok (.irem, 1)) (kk : WM p l e R s m args below meth c cells slots Q D cA A Pl F nL M (pc + 1) lv (.int (jrem x y) :: st)) : WM p l e R s m args below meth c cells slots Q D cA A Pl F nL M pc lv (.int y :: .int x :: st) :=
  fun H locs hP hS ls hl => lv_irem C.1.1 C.1.2.1 hdg hne (kk H locs hP hS ls hl)
theorem wm_ldiv {x y : Int64} (C : Cx p s m args meth c cc own nL D cA A Pl F) (hne : ¬ y = 0) (hdg : decode cc pc = .ok (.ldiv, 1)) (kk : WM p l e R s m args below meth c cells slots Q D cA A Pl F nL M (pc + 1) lv (.long (x / y) :: st)) : WM p l e R s m args below meth c cells slots Q D cA A Pl F nL M pc lv (.long y :: .long x :: st) :=
  fun H locs hP hS ls hl => lv_ldiv C.1.1 C.1.2.1 hdg hne (kk H locs hP hS ls hl)
theorem wm_lrem {x y : Int64} (C : Cx p s m args meth c cc own nL D cA A Pl F) (hne : ¬ y = 0) (hdg : decode cc pc = .ok (.lrem, 1)) (kk : WM p l e R s m args below meth c cells slots Q D cA A Pl F nL M (pc + 1) lv (.long (jlrem x y) :: st)) : WM p l e R s m args below meth c cells slots Q D cA A Pl F nL M pc lv (.long y :: .long x :: st) :=
  fun H locs hP hS ls hl => lv_lrem C.1.1 C.1.2.1 hdg hne (kk H locs hP hS ls hl)
theorem wm_lcmp {x y : Int64} (C : Cx p s m args meth c cc own nL D cA A Pl F) (hdg : decode cc pc = .ok (.lcmp, 1)) (kk : WM p l e R s m args below meth c cells slots Q D cA A Pl F nL M (pc + 1) lv (.int (lg_cmp x y) :: st)) : WM p l e R s m args below meth c cells slots Q D cA A Pl F nL M pc lv (.long y :: .long x :: st) :=
  fun H locs hP hS ls hl => W.lcmp C.1.1 C.1.2.1 hdg (kk H locs hP hS ls hl)
theorem wm_ineg {x : Int32} (C : Cx p s m args meth c cc own nL D cA A Pl F) (hdg : decode cc pc = .ok (.ineg, 1)) (kk : WM p l e R s m args below meth c cells slots Q D cA A Pl F nL M (pc + 1) lv (.int (-x) :: st)) : WM p l e R s m args below meth c cells slots Q D cA A Pl F nL M pc lv (.int x :: st) :=
  fun H locs hP hS ls hl => lv_ineg C.1.1 C.1.2.1 hdg (kk H locs hP hS ls hl)
theorem wm_i2b {x : Int32} (C : Cx p s m args meth c cc own nL D cA A Pl F) (hdg : decode cc pc = .ok (.i2b, 1)) (kk : WM p l e R s m args below meth c cells slots Q D cA A Pl F nL M (pc + 1) lv (.int x.toInt8.toInt32 :: st)) : WM p l e R s m args below meth c cells slots Q D cA A Pl F nL M pc lv (.int x :: st) :=
  fun H locs hP hS ls hl => lv_i2b C.1.1 C.1.2.1 hdg rfl (kk H locs hP hS ls hl)
theorem wm_i2s {x : Int32} (C : Cx p s m args meth c cc own nL D cA A Pl F) (hdg : decode cc pc = .ok (.i2s, 1)) (kk : WM p l e R s m args below meth c cells slots Q D cA A Pl F nL M (pc + 1) lv (.int x.toInt16.toInt32 :: st)) : WM p l e R s m args below meth c cells slots Q D cA A Pl F nL M pc lv (.int x :: st) :=
  fun H locs hP hS ls hl => lv_i2s C.1.1 C.1.2.1 hdg rfl (kk H locs hP hS ls hl)
theorem wm_i2l {x : Int32} (C : Cx p s m args meth c cc own nL D cA A Pl F) (hdg : decode cc pc = .ok (.i2l, 1)) (kk : WM p l e R s m args below meth c cells slots Q D cA A Pl F nL M (pc + 1) lv (.long x.toInt64 :: st)) : WM p l e R s m args below meth c cells slots Q D cA A Pl F nL M pc lv (.int x :: st) :=
  fun H locs hP hS ls hl => lv_i2l C.1.1 C.1.2.1 hdg rfl (kk H locs hP hS ls hl)
theorem wm_l2i {x : Int64} (C : Cx p s m args meth c cc own nL D cA A Pl F) (hdg : decode cc pc = .ok (.l2i, 1)) (kk : WM p l e R s m args below meth c cells slots Q D cA A Pl F nL M (pc + 1) lv (.int x.toInt32 :: st)) : WM p l e R s m args below meth c cells slots Q D cA A Pl F nL M pc lv (.long x :: st) :=
  fun H locs hP hS ls hl => lv_l2i C.1.1 C.1.2.1 hdg rfl (kk H locs hP hS ls hl)
theorem wm_dup {v : Value} (C : Cx p s m args meth c cc own nL D cA A Pl F) (hdg : decode cc pc = .ok (.dup, 1)) (hv : v.category = 1) (kk : WM p l e R s m args below meth c cells slots Q D cA A Pl F nL M (pc + 1) lv (v :: v :: st)) : WM p l e R s m args below meth c cells slots Q D cA A Pl F nL M pc lv (v :: st) :=
  fun H locs hP hS ls hl => lv_dup C.1.1 C.1.2.1 hdg hv (kk H locs hP hS ls hl)
theorem wm_dup2 {a b : Value} (C : Cx p s m args meth c cc own nL D cA A Pl F) (hdg : decode cc pc = .ok (.dup2, 1)) (ha : a.category = 1) (hb : b.category = 1) (kk : WM p l e R s m args below meth c cells slots Q D cA A Pl F nL M (pc + 1) lv (a :: b :: a :: b :: st)) : WM p l e R s m args below meth c cells slots Q D cA A Pl F nL M pc lv (a :: b :: st) :=
  fun H locs hP hS ls hl => lv_dup2_11 C.1.1 C.1.2.1 hdg ha hb (kk H locs hP hS ls hl)
theorem wm_dup_x1 {a b : Value} (C : Cx p s m args meth c cc own nL D cA A Pl F) (hdg : decode cc pc = .ok (.dup_x1, 1)) (ha : a.category = 1) (hb : b.category = 1) (kk : WM p l e R s m args below meth c cells slots Q D cA A Pl F nL M (pc + 1) lv (a :: b :: a :: st)) : WM p l e R s m args below meth c cells slots Q D cA A Pl F nL M pc lv (a :: b :: st) :=
  fun H locs hP hS ls hl => lv_dup_x1 C.1.1 C.1.2.1 hdg ha hb (kk H locs hP hS ls hl)
theorem wm_pop {v : Value} (C : Cx p s m args meth c cc own nL D cA A Pl F) (hdg : decode cc pc = .ok (.pop, 1)) (hv : v.category = 1) (kk : WM p l e R s m args below meth c cells slots Q D cA A Pl F nL M (pc + 1) lv st) : WM p l e R s m args below meth c cells slots Q D cA A Pl F nL M pc lv (v :: st) :=
  fun H locs hP hS ls hl => lv_pop C.1.1 C.1.2.1 hdg hv (kk H locs hP hS ls hl)
theorem wm_iload_n (k : Nat) {kf : Fin 4} {x : Int32} (C : Cx p s m args meth c cc own nL D cA A Pl F) (hdg : decode cc pc = .ok (.iload_n kf, 1)) (hk : lv[k]? = some ((kf : Nat), .int x)) (kk : WM p l e R s m args below meth c cells slots Q D cA A Pl F nL M (pc + 1) lv (.int x :: st)) : WM p l e R s m args below meth c cells slots Q D cA A Pl F nL M pc lv st :=
  fun H locs hP hS ls hl => lv_iload_n C.1.1 C.1.2.1 hdg rfl (lv_at hl k hk) (kk H locs hP hS ls hl)
theorem wm_iload (k : Nat) {i : Nat} {x : Int32} (C : Cx p s m args meth c cc own nL D cA A Pl F) (hdg : decode cc pc = .ok (.iload i, 2)) (hk : lv[k]? = some (i, .int x)) (kk : WM p l e R s m args below meth c cells slots Q D cA A Pl F nL M (pc + 2) lv (.int x :: st)) : WM p l e R s m args below meth c cells slots Q D cA A Pl F nL M pc lv st :=
  fun H locs hP hS ls hl => lv_iload C.1.1 C.1.2.1 hdg (lv_at hl k hk) (kk H locs hP hS ls hl)
theorem wm_istore_n {lv1 : List (Nat × Value)} {kf : Fin 4} {x : Int32} (C : Cx p s m args meth c cc own nL D cA A Pl F) (hdg : decode cc pc = .ok (.istore_n kf, 1)) (hn : (kf : Nat) < nL) (hv : ((kf : Nat), Value.int x) :: lv.filter (fun q => !(q.1 == (kf : Nat)) && !(q.1 + 1 == (kf : Nat) && q.2.category == 2)) = lv1) (kk : WM p l e R s m args below meth c cells slots Q D cA A Pl F nL M (pc + 1) lv1 st) : WM p l e R s m args below meth c cells slots Q D cA A Pl F nL M pc lv (.int x :: st) :=
  fun H locs hP hS ls hl => lv_istore_n C.1.1 C.1.2.1 hdg rfl hl hn hv (fun ls1 hl1 => kk H locs hP hS ls1 hl1)
theorem wm_istore {lv1 : List (Nat × Value)} {i : Nat} {x : Int32} (C : Cx p s m args meth c cc own nL D cA A Pl F) (hdg : decode cc pc = .ok (.istore i, 2)) (hn : i < nL) (hv : (i, Value.int x) :: lv.filter (fun q => !(q.1 == i) && !(q.1 + 1 == i && q.2.category == 2)) = lv1) (kk : WM p l e R s m args below meth c cells slots Q D cA A Pl F nL M (pc + 2) lv1 st) : WM p l e R s m args below meth c cells slots Q D cA A Pl F nL M pc lv (.int x :: st) :=
  fun H locs hP hS ls hl => lv_istore C.1.1 C.1.2.1 hdg hl hn hv (fun ls1 hl1 => kk H locs hP hS ls1 hl1)
theorem wm_lload_n (k : Nat) {kf : Fin 4} {x : Int64} (C : Cx p s m args meth c cc own nL D cA A Pl F) (hdg : decode cc pc = .ok (.lload_n kf, 1)) (hk : lv[k]? = some ((kf : Nat), .long x)) (kk : WM p l e R s m args below meth c cells slots Q D cA A Pl F nL M (pc + 1) lv (.long x :: st)) : WM p l e R s m args below meth c cells slots Q D cA A Pl F nL M pc lv st :=
  fun H locs hP hS ls hl => lv_lload_n C.1.1 C.1.2.1 hdg rfl (lv_at hl k hk) (kk H locs hP hS ls hl)
theorem wm_lload (k : Nat) {i : Nat} {x : Int64} (C : Cx p s m args meth c cc own nL D cA A Pl F) (hdg : decode cc pc = .ok (.lload i, 2)) (hk : lv[k]? = some (i, .long x)) (kk : WM p l e R s m args below meth c cells slots Q D cA A Pl F nL M (pc + 2) lv (.long x :: st)) : WM p l e R s m args below meth c cells slots Q D cA A Pl F nL M pc lv st :=
  fun H locs hP hS ls hl => lv_lload C.1.1 C.1.2.1 hdg (lv_at hl k hk) (kk H locs hP hS ls hl)
theorem wm_lstore_n {lv1 : List (Nat × Value)} {kf : Fin 4} {x : Int64} (C : Cx p s m args meth c cc own nL D cA A Pl F) (hdg : decode cc pc = .ok (.lstore_n kf, 1)) (hn : (kf : Nat) + 1 < nL) (hv : ((kf : Nat), Value.long x) :: lv.filter (fun q => !(q.1 == (kf : Nat)) && (!(q.1 == (kf : Nat) + 1) && !(q.1 + 1 == (kf : Nat) && q.2.category == 2))) = lv1) (kk : WM p l e R s m args below meth c cells slots Q D cA A Pl F nL M (pc + 1) lv1 st) : WM p l e R s m args below meth c cells slots Q D cA A Pl F nL M pc lv (.long x :: st) :=
  fun H locs hP hS ls hl => lv_lstore_n C.1.1 C.1.2.1 hdg rfl hl hn hv (fun ls1 hl1 => kk H locs hP hS ls1 hl1)
theorem wm_lstore {lv1 : List (Nat × Value)} {i : Nat} {x : Int64} (C : Cx p s m args meth c cc own nL D cA A Pl F) (hdg : decode cc pc = .ok (.lstore i, 2)) (hn : i + 1 < nL) (hv : (i, Value.long x) :: lv.filter (fun q => !(q.1 == i) && (!(q.1 == i + 1) && !(q.1 + 1 == i && q.2.category == 2))) = lv1) (kk : WM p l e R s m args below meth c cells slots Q D cA A Pl F nL M (pc + 2) lv1 st) : WM p l e R s m args below meth c cells slots Q D cA A Pl F nL M pc lv (.long x :: st) :=
  fun H locs hP hS ls hl => lv_lstore C.1.1 C.1.2.1 hdg hl hn hv (fun ls1 hl1 => kk H locs hP hS ls1 hl1)
theorem wm_aload_n (k : Nat) {kf : Fin 4} {x : Nat} (C : Cx p s m args meth c cc own nL D cA A Pl F) (hdg : decode cc pc = .ok (.aload_n kf, 1)) (hk : lv[k]? = some ((kf : Nat), .ref x)) (kk : WM p l e R s m args below meth c cells slots Q D cA A Pl F nL M (pc + 1) lv (.ref x :: st)) : WM p l e R s m args below meth c cells slots Q D cA A Pl F nL M pc lv st :=
  fun H locs hP hS ls hl => lv_aload_n C.1.1 C.1.2.1 hdg rfl (lv_at hl k hk) (kk H locs hP hS ls hl)
theorem wm_aload (k : Nat) {i : Nat} {x : Nat} (C : Cx p s m args meth c cc own nL D cA A Pl F) (hdg : decode cc pc = .ok (.aload i, 2)) (hk : lv[k]? = some (i, .ref x)) (kk : WM p l e R s m args below meth c cells slots Q D cA A Pl F nL M (pc + 2) lv (.ref x :: st)) : WM p l e R s m args below meth c cells slots Q D cA A Pl F nL M pc lv st :=
  fun H locs hP hS ls hl => lv_aload C.1.1 C.1.2.1 hdg (lv_at hl k hk) (kk H locs hP hS ls hl)
theorem wm_astore_n {lv1 : List (Nat × Value)} {kf : Fin 4} {x : Nat} (C : Cx p s m args meth c cc own nL D cA A Pl F) (hdg : decode cc pc = .ok (.astore_n kf, 1)) (hn : (kf : Nat) < nL) (hv : ((kf : Nat), Value.ref x) :: lv.filter (fun q => !(q.1 == (kf : Nat)) && !(q.1 + 1 == (kf : Nat) && q.2.category == 2)) = lv1) (kk : WM p l e R s m args below meth c cells slots Q D cA A Pl F nL M (pc + 1) lv1 st) : WM p l e R s m args below meth c cells slots Q D cA A Pl F nL M pc lv (.ref x :: st) :=
  fun H locs hP hS ls hl => lv_astore_n C.1.1 C.1.2.1 hdg rfl hl hn hv (fun ls1 hl1 => kk H locs hP hS ls1 hl1)
theorem wm_astore {lv1 : List (Nat × Value)} {i : Nat} {x : Nat} (C : Cx p s m args meth c cc own nL D cA A Pl F) (hdg : decode cc pc = .ok (.astore i, 2)) (hn : i < nL) (hv : (i, Value.ref x) :: lv.filter (fun q => !(q.1 == i) && !(q.1 + 1 == i && q.2.category == 2)) = lv1) (kk : WM p l e R s m args below meth c cells slots Q D cA A Pl F nL M (pc + 2) lv1 st) : WM p l e R s m args below meth c cells slots Q D cA A Pl F nL M pc lv (.ref x :: st) :=
  fun H locs hP hS ls hl => lv_astore C.1.1 C.1.2.1 hdg hl hn hv (fun ls1 hl1 => kk H locs hP hS ls1 hl1)
theorem wm_iinc {lv1 : List (Nat × Value)} {i : Nat} {n : Int} {x v : Int32} (k : Nat) (C : Cx p s m args meth c cc own nL D cA A Pl F) (hdg : decode cc pc = .ok (.iinc i n, 3)) (hk : lv[k]? = some (i, .int x)) (hv : x + Int32.ofInt n = v) (hn : i < nL) (hl1 : (i, Value.int v) :: lv.filter (fun q => !(q.1 == i) && !(q.1 + 1 == i && q.2.category == 2)) = lv1) (kk : WM p l e R s m args below meth c cells slots Q D cA A Pl F nL M (pc + 3) lv1 st) : WM p l e R s m args below meth c cells slots Q D cA A Pl F nL M pc lv st :=
  fun H locs hP hS ls hl => lv_iinc C.1.1 C.1.2.1 hdg hl hk hv hn hl1 (fun ls1 hl2 => kk H locs hP hS ls1 hl2)
theorem wm_icmp_eq {x y : Int32} {off : Int} {tgt : Nat} (C : Cx p s m args meth c cc own nL D cA A Pl F) (hdg : decode cc pc = .ok (.if_icmp .eq off, 3)) (ht : (pc : Int) + off = (tgt : Int)) (kt : x = y → WM p l e R s m args below meth c cells slots Q D cA A Pl F nL M tgt lv st) (kf : ¬ x = y → WM p l e R s m args below meth c cells slots Q D cA A Pl F nL M (pc + 3) lv st) : WM p l e R s m args below meth c cells slots Q D cA A Pl F nL M pc lv (.int y :: .int x :: st) :=
  fun H locs hP hS ls hl => lv_icmp_eq C.1.1 C.1.2.1 hdg ht (fun h => kt h H locs hP hS ls hl) (fun h => kf h H locs hP hS ls hl)
theorem wm_if_eq {x : Int32} {off : Int} {tgt : Nat} (C : Cx p s m args meth c cc own nL D cA A Pl F) (hdg : decode cc pc = .ok (.ifCond .eq off, 3)) (ht : (pc : Int) + off = (tgt : Int)) (kt : x = 0 → WM p l e R s m args below meth c cells slots Q D cA A Pl F nL M tgt lv st) (kf : ¬ x = 0 → WM p l e R s m args below meth c cells slots Q D cA A Pl F nL M (pc + 3) lv st) : WM p l e R s m args below meth c cells slots Q D cA A Pl F nL M pc lv (.int x :: st) :=
  fun H locs hP hS ls hl => lv_if_eq C.1.1 C.1.2.1 hdg ht (fun h => kt h H locs hP hS ls hl) (fun h => kf h H locs hP hS ls hl)
theorem wm_icmp_ne {x y : Int32} {off : Int} {tgt : Nat} (C : Cx p s m args meth c cc own nL D cA A Pl F) (hdg : decode cc pc = .ok (.if_icmp .ne off, 3)) (ht : (pc : Int) + off = (tgt : Int)) (kt : ¬ x = y → WM p l e R s m args below meth c cells slots Q D cA A Pl F nL M tgt lv st) (kf : x = y → WM p l e R s m args below meth c cells slots Q D cA A Pl F nL M (pc + 3) lv st) : WM p l e R s m args below meth c cells slots Q D cA A Pl F nL M pc lv (.int y :: .int x :: st) :=
  fun H locs hP hS ls hl => lv_icmp_ne C.1.1 C.1.2.1 hdg ht (fun h => kt h H locs hP hS ls hl) (fun h => kf h H locs hP hS ls hl)
theorem wm_if_ne {x : Int32} {off : Int} {tgt : Nat} (C : Cx p s m args meth c cc own nL D cA A Pl F) (hdg : decode cc pc = .ok (.ifCond .ne off, 3)) (ht : (pc : Int) + off = (tgt : Int)) (kt : ¬ x = 0 → WM p l e R s m args below meth c cells slots Q D cA A Pl F nL M tgt lv st) (kf : x = 0 → WM p l e R s m args below meth c cells slots Q D cA A Pl F nL M (pc + 3) lv st) : WM p l e R s m args below meth c cells slots Q D cA A Pl F nL M pc lv (.int x :: st) :=
  fun H locs hP hS ls hl => lv_if_ne C.1.1 C.1.2.1 hdg ht (fun h => kt h H locs hP hS ls hl) (fun h => kf h H locs hP hS ls hl)
theorem wm_icmp_lt {x y : Int32} {off : Int} {tgt : Nat} (C : Cx p s m args meth c cc own nL D cA A Pl F) (hdg : decode cc pc = .ok (.if_icmp .lt off, 3)) (ht : (pc : Int) + off = (tgt : Int)) (kt : x < y → WM p l e R s m args below meth c cells slots Q D cA A Pl F nL M tgt lv st) (kf : ¬ x < y → WM p l e R s m args below meth c cells slots Q D cA A Pl F nL M (pc + 3) lv st) : WM p l e R s m args below meth c cells slots Q D cA A Pl F nL M pc lv (.int y :: .int x :: st) :=
  fun H locs hP hS ls hl => lv_icmp_lt C.1.1 C.1.2.1 hdg ht (fun h => kt h H locs hP hS ls hl) (fun h => kf h H locs hP hS ls hl)
theorem wm_if_lt {x : Int32} {off : Int} {tgt : Nat} (C : Cx p s m args meth c cc own nL D cA A Pl F) (hdg : decode cc pc = .ok (.ifCond .lt off, 3)) (ht : (pc : Int) + off = (tgt : Int)) (kt : x < 0 → WM p l e R s m args below meth c cells slots Q D cA A Pl F nL M tgt lv st) (kf : ¬ x < 0 → WM p l e R s m args below meth c cells slots Q D cA A Pl F nL M (pc + 3) lv st) : WM p l e R s m args below meth c cells slots Q D cA A Pl F nL M pc lv (.int x :: st) :=
  fun H locs hP hS ls hl => lv_if_lt C.1.1 C.1.2.1 hdg ht (fun h => kt h H locs hP hS ls hl) (fun h => kf h H locs hP hS ls hl)
theorem wm_icmp_ge {x y : Int32} {off : Int} {tgt : Nat} (C : Cx p s m args meth c cc own nL D cA A Pl F) (hdg : decode cc pc = .ok (.if_icmp .ge off, 3)) (ht : (pc : Int) + off = (tgt : Int)) (kt : y ≤ x → WM p l e R s m args below meth c cells slots Q D cA A Pl F nL M tgt lv st) (kf : ¬ y ≤ x → WM p l e R s m args below meth c cells slots Q D cA A Pl F nL M (pc + 3) lv st) : WM p l e R s m args below meth c cells slots Q D cA A Pl F nL M pc lv (.int y :: .int x :: st) :=
  fun H locs hP hS ls hl => lv_icmp_ge C.1.1 C.1.2.1 hdg ht (fun h => kt h H locs hP hS ls hl) (fun h => kf h H locs hP hS ls hl)
theorem wm_if_ge {x : Int32} {off : Int} {tgt : Nat} (C : Cx p s m args meth c cc own nL D cA A Pl F) (hdg : decode cc pc = .ok (.ifCond .ge off, 3)) (ht : (pc : Int) + off = (tgt : Int)) (kt : 0 ≤ x → WM p l e R s m args below meth c cells slots Q D cA A Pl F nL M tgt lv st) (kf : ¬ 0 ≤ x → WM p l e R s m args below meth c cells slots Q D cA A Pl F nL M (pc + 3) lv st) : WM p l e R s m args below meth c cells slots Q D cA A Pl F nL M pc lv (.int x :: st) :=
  fun H locs hP hS ls hl => lv_if_ge C.1.1 C.1.2.1 hdg ht (fun h => kt h H locs hP hS ls hl) (fun h => kf h H locs hP hS ls hl)
theorem wm_icmp_gt {x y : Int32} {off : Int} {tgt : Nat} (C : Cx p s m args meth c cc own nL D cA A Pl F) (hdg : decode cc pc = .ok (.if_icmp .gt off, 3)) (ht : (pc : Int) + off = (tgt : Int)) (kt : y < x → WM p l e R s m args below meth c cells slots Q D cA A Pl F nL M tgt lv st) (kf : ¬ y < x → WM p l e R s m args below meth c cells slots Q D cA A Pl F nL M (pc + 3) lv st) : WM p l e R s m args below meth c cells slots Q D cA A Pl F nL M pc lv (.int y :: .int x :: st) :=
  fun H locs hP hS ls hl => lv_icmp_gt C.1.1 C.1.2.1 hdg ht (fun h => kt h H locs hP hS ls hl) (fun h => kf h H locs hP hS ls hl)
theorem wm_if_gt {x : Int32} {off : Int} {tgt : Nat} (C : Cx p s m args meth c cc own nL D cA A Pl F) (hdg : decode cc pc = .ok (.ifCond .gt off, 3)) (ht : (pc : Int) + off = (tgt : Int)) (kt : 0 < x → WM p l e R s m args below meth c cells slots Q D cA A Pl F nL M tgt lv st) (kf : ¬ 0 < x → WM p l e R s m args below meth c cells slots Q D cA A Pl F nL M (pc + 3) lv st) : WM p l e R s m args below meth c cells slots Q D cA A Pl F nL M pc lv (.int x :: st) :=
  fun H locs hP hS ls hl => lv_if_gt C.1.1 C.1.2.1 hdg ht (fun h => kt h H locs hP hS ls hl) (fun h => kf h H locs hP hS ls hl)
theorem wm_icmp_le {x y : Int32} {off : Int} {tgt : Nat} (C : Cx p s m args meth c cc own nL D cA A Pl F) (hdg : decode cc pc = .ok (.if_icmp .le off, 3)) (ht : (pc : Int) + off = (tgt : Int)) (kt : x ≤ y → WM p l e R s m args below meth c cells slots Q D cA A Pl F nL M tgt lv st) (kf : ¬ x ≤ y → WM p l e R s m args below meth c cells slots Q D cA A Pl F nL M (pc + 3) lv st) : WM p l e R s m args below meth c cells slots Q D cA A Pl F nL M pc lv (.int y :: .int x :: st) :=
  fun H locs hP hS ls hl => lv_icmp_le C.1.1 C.1.2.1 hdg ht (fun h => kt h H locs hP hS ls hl) (fun h => kf h H locs hP hS ls hl)
theorem wm_if_le {x : Int32} {off : Int} {tgt : Nat} (C : Cx p s m args meth c cc own nL D cA A Pl F) (hdg : decode cc pc = .ok (.ifCond .le off, 3)) (ht : (pc : Int) + off = (tgt : Int)) (kt : x ≤ 0 → WM p l e R s m args below meth c cells slots Q D cA A Pl F nL M tgt lv st) (kf : ¬ x ≤ 0 → WM p l e R s m args below meth c cells slots Q D cA A Pl F nL M (pc + 3) lv st) : WM p l e R s m args below meth c cells slots Q D cA A Pl F nL M pc lv (.int x :: st) :=
  fun H locs hP hS ls hl => lv_if_le C.1.1 C.1.2.1 hdg ht (fun h => kt h H locs hP hS ls hl) (fun h => kf h H locs hP hS ls hl)
theorem wm_goto {off : Int} {tgt : Nat} (C : Cx p s m args meth c cc own nL D cA A Pl F) (hdg : decode cc pc = .ok (.goto off, 3)) (ht : (pc : Int) + off = (tgt : Int)) (kk : WM p l e R s m args below meth c cells slots Q D cA A Pl F nL M tgt lv st) : WM p l e R s m args below meth c cells slots Q D cA A Pl F nL M pc lv st :=
  fun H locs hP hS ls hl => lv_goto C.1.1 C.1.2.1 hdg ht (kk H locs hP hS ls hl)
theorem wm_tswI {dflt lo hi : Int} {offs : Array Int} {len : Nat} {x k : Int32} {off : Int} {tgt : Nat} (C : Cx p s m args meth c cc own nL D cA A Pl F) (hdg : decode cc pc = .ok (.tableswitch dflt lo hi offs, len)) (hx : x = k) (h1 : ¬ k.toInt < lo) (h2 : ¬ hi < k.toInt) (ho : offs[(k.toInt - lo).toNat]? = some off) (ht : (pc : Int) + off = (tgt : Int)) (kk : WM p l e R s m args below meth c cells slots Q D cA A Pl F nL M tgt lv st) : WM p l e R s m args below meth c cells slots Q D cA A Pl F nL M pc lv (.int x :: st) := by
  subst hx
  exact fun H locs hP hS ls hl => lv_tableIn C.1.1 C.1.2.1 hdg h1 h2 ho ht (kk H locs hP hS ls hl)
theorem wm_tswO {dflt lo hi : Int} {offs : Array Int} {len : Nat} {x : Int32} {tgt : Nat} (C : Cx p s m args meth c cc own nL D cA A Pl F) (hdg : decode cc pc = .ok (.tableswitch dflt lo hi offs, len)) (h : x.toInt < lo ∨ hi < x.toInt) (ht : (pc : Int) + dflt = (tgt : Int)) (kk : WM p l e R s m args below meth c cells slots Q D cA A Pl F nL M tgt lv st) : WM p l e R s m args below meth c cells slots Q D cA A Pl F nL M pc lv (.int x :: st) :=
  fun H locs hP hS ls hl => lv_tableOut C.1.1 C.1.2.1 hdg h ht (kk H locs hP hS ls hl)
theorem wm_ldc {idx : Nat} {v : Int32} (C : Cx p s m args meth c cc own nL D cA A Pl F) (hw : Cond.constant own idx v ∈ WT) (hdg : decode cc pc = .ok (.ldc idx, 2)) (kk : WM p l e R s m args below meth c cells slots Q D cA A Pl F nL M (pc + 2) lv (.int v :: st)) : WM p l e R s m args below meth c cells slots Q D cA A Pl F nL M pc lv st :=
  fun H locs hP hS ls hl => lv_ldc C.1.1 C.1.2.1 C.1.2.2.2 (C.2.1 _ hw) hdg (kk H locs hP hS ls hl)
theorem wm_ldc_w {idx : Nat} {v : Int32} (C : Cx p s m args meth c cc own nL D cA A Pl F) (hw : Cond.constant own idx v ∈ WT) (hdg : decode cc pc = .ok (.ldc_w idx, 3)) (kk : WM p l e R s m args below meth c cells slots Q D cA A Pl F nL M (pc + 3) lv (.int v :: st)) : WM p l e R s m args below meth c cells slots Q D cA A Pl F nL M pc lv st :=
  fun H locs hP hS ls hl => lv_ldcw C.1.1 C.1.2.1 C.1.2.2.2 (C.2.1 _ hw) hdg (kk H locs hP hS ls hl)
theorem wm_ldc2 {idx : Nat} {v : Int64} (C : Cx p s m args meth c cc own nL D cA A Pl F) (hw : Cond.constantLong own idx v ∈ WT) (hdg : decode cc pc = .ok (.ldc2_w idx, 3)) (kk : WM p l e R s m args below meth c cells slots Q D cA A Pl F nL M (pc + 3) lv (.long v :: st)) : WM p l e R s m args below meth c cells slots Q D cA A Pl F nL M pc lv st :=
  fun H locs hP hS ls hl => lv_ldc2 C.1.1 C.1.2.1 C.1.2.2.2 (C.2.1 _ hw) hdg (kk H locs hP hS ls hl)
theorem wm_ldcs {q idx : Nat} {tx : String} (C : Cx p s m args meth c cc own nL D cA A Pl F) (hx : sIdx[q - 1000]? = some (own, idx, tx) ∧ 1000 ≤ q) (hdg : decode cc pc = .ok (.ldc idx, 2)) (kk : WM p l e R s m args below meth c cells slots Q D cA A Pl F nL M (pc + 2) lv (.ref (A q) :: st)) : WM p l e R s m args below meth c cells slots Q D cA A Pl F nL M pc lv st := by
  intro H locs hP hS ls hl
  have hr := C.2.2.2.2.2.2.2.2.1 (q - 1000) _ hx.1
  have e : 1000 + (q - 1000) = q := by omega
  rw [e] at hr
  exact va_ldcS C.1.1 C.1.2.1 C.1.2.2.2 hr hdg (kk H locs hP hS ls hl)
theorem wm_get {ci k idx q N : Nat} {CN : String} {T : u_T} {v : Value} (C : Cx p s m args meth c cc own nL D cA A Pl F) (hp : q ∈ Pl) (hci : kd q = ci) (hcl : vwCl[ci]? = some (CN, T, N)) (hk : k < N) (hw : Cond.fieldLink own idx (T k).1 (T k).2.1 (T k).2.2.1 ∈ WT) (hu : ∀ w ∈ u_ws CN T N, w ∈ WT) (hv : (fld ci q A (M q))[k]? = some v) (hdg : decode cc pc = .ok (.getfield idx, 3)) (kk : WM p l e R s m args below meth c cells slots Q D cA A Pl F nL M (pc + 3) lv (v :: st)) : WM p l e R s m args below meth c cells slots Q D cA A Pl F nL M pc lv (.ref (A q) :: st) := by
  intro H locs hP hS ls hl
  obtain ⟨i, -, hi⟩ := enc_get (cA := cA) (A := A) (M := M) hp
  have hc9 : ci < 9 := (List.getElem?_eq_some_iff.mp hcl).1
  rw [mc_obj hci hc9] at hi
  exact va_get (D := D) (ref := (T k).1) C.1.1 C.1.2.1 C.2.1 hu C.1.2.2.2 C.2.2.2.1 hP i hi hcl k hk (C.2.1 _ hw) (fun _ h => h) hv hdg (kk H locs hP hS ls hl)
theorem wm_put {ci k idx q N : Nat} {CN : String} {T : u_T} {ty0 : Nat → FieldType} {ty : FieldType} {v : Value} {x : Int32} (C : Cx p s m args meth c cc own nL D cA A Pl F) (hp : q ∈ Pl) (hci : kd q = ci) (hcl : vwCl[ci]? = some (CN, T, N)) (hk : k < N) (hw : Cond.fieldLink own idx (T k).1 (T k).2.1 (T k).2.2.1 ∈ WT) (hu : ∀ w ∈ u_ws CN T N, w ∈ WT) (hty : ∀ k, k < N → parseFieldDescriptor (T k).2.2.1 = some (ty0 k)) (hnm : ∀ a, a < N → ∀ b, b < N → a ≠ b → (T a).2.1 ≠ (T b).2.1) (hfin : (T k).2.2.2 = false) (hd : ty0 k = ty) (hn : narrow ty v = v) (hfit : fits ty v = true) (hset : ∀ f : Nat → Int32, (fld ci q A f).set k v = fld ci q A (upd f k x)) (hlen : k < (fld ci q A (M q)).length) (hdg : decode cc pc = .ok (.putfield idx, 3)) (kk : WM p l e R s m args below meth c cells slots Q D cA A Pl F nL (mu M q k x) (pc + 3) lv st) : WM p l e R s m args below meth c cells slots Q D cA A Pl F nL M pc lv (v :: .ref (A q) :: st) := by
  intro H locs hP hS ls hl
  obtain ⟨i, hi0, hi⟩ := enc_get (cA := cA) (A := A) (M := M) hp
  have hc9 : ci < 9 := (List.getElem?_eq_some_iff.mp hcl).1
  rw [mc_obj hci hc9] at hi
  refine va_put (D := D) (ref := (T k).1) C.1.1 C.1.2.1 C.2.1 hu ty0 hty hnm C.1.2.2.2 C.2.2.2.1 hP (enc_D C.2.2.2.2.1) hS i hi hcl k hk (C.2.1 _ hw) (fun _ h => h) hfin (by rw [hty k hk, hd]) hn hfit hlen hdg (fun H1 locs1 hP1 hD1 hS1 => ?_)
  rw [enc_set (M1 := mu M q k x) C.2.2.2.2.1 hi0 (fun r hr => mu_ne hr) (by rw [mu_same, mc_obj hci hc9, hset])] at hP1
  exact kk H1 locs1 hP1 hS1 ls hl
theorem wm_lswap {x : Int32} {v w : Int64} (h : x.toInt64 = v) (kk : WM p l e R s m args below meth c cells slots Q D cA A Pl F nL M pc lv (.long x.toInt64 :: st)) : WM p l e R s m args below meth c cells slots Q D cA A Pl F nL M pc lv (.long v :: st) := by
  subst h
  exact kk
theorem wm_rswap {x : Int32} {n : Nat} (h : x.toNatClampNeg = n) (kk : WM p l e R s m args below meth c cells slots Q D cA A Pl F nL M pc lv (.ref (A x.toNatClampNeg) :: st)) : WM p l e R s m args below meth c cells slots Q D cA A Pl F nL M pc lv (.ref (A n) :: st) := by
  subst h
  exact kk
theorem wm_iald {n j q K : Nat} {i v : Int32} (C : Cx p s m args meth c cc own nL D cA A Pl F) (hp : q ∈ Pl) (hkd : kd q = K) (hK : isI K = true) (hln : ln q = n) (hin : inb i n = true) (hj : i.toNatClampNeg = j) (hv : M q j = v) (hdg : decode cc pc = .ok (.iaload, 1)) (kk : WM p l e R s m args below meth c cells slots Q D cA A Pl F nL M (pc + 1) lv (.int v :: st)) : WM p l e R s m args below meth c cells slots Q D cA A Pl F nL M pc lv (.int i :: .ref (A q) :: st) := by
  intro H locs hP hS ls hl
  obtain ⟨x, -, hx⟩ := enc_get (cA := cA) (A := A) (M := M) hp
  rw [mc_int hkd hK, hln] at hx
  subst hj hv
  exact va_iald (D := D) C.1.1 C.1.2.1 C.2.2.2.1 hP x 0 hx rfl (inb_vp hin) hdg (kk H locs hP hS ls hl)
theorem wm_iast {n j q K : Nat} {i x : Int32} (C : Cx p s m args meth c cc own nL D cA A Pl F) (hp : q ∈ Pl) (hkd : kd q = K) (hK : isI K = true) (hln : ln q = n) (hin : inb i n = true) (hj : i.toNatClampNeg = j) (hdg : decode cc pc = .ok (.iastore, 1)) (kk : WM p l e R s m args below meth c cells slots Q D cA A Pl F nL (mu M q j x) (pc + 1) lv st) : WM p l e R s m args below meth c cells slots Q D cA A Pl F nL M pc lv (.int x :: .int i :: .ref (A q) :: st) := by
  intro H locs hP hS ls hl
  obtain ⟨z, hz0, hz1⟩ := enc_get (cA := cA) (A := A) (M := M) hp
  rw [mc_int hkd hK, hln] at hz1
  subst hj
  refine va_iast (D := D) C.1.1 C.1.2.1 C.2.2.2.1 hP (enc_D C.2.2.2.2.1) hS z 0 hz1 rfl (inb_vp hin) hdg (fun H1 locs1 hP1 hD1 hS1 => ?_)
  have hP1 := hP1
  rw [enc_set (M1 := mu M q i.toNatClampNeg x) C.2.2.2.2.1 hz0 (fun r hr => mu_ne hr) (by rw [mu_same, mc_int hkd hK, hln])] at hP1
  exact kk H1 locs1 hP1 hS1 ls hl
theorem wm_zald {n j q K : Nat} {i v : Int32} (C : Cx p s m args meth c cc own nL D cA A Pl F) (hp : q ∈ Pl) (hkd : kd q = K) (hK : isZ K = true) (hln : ln q = n) (hin : inb i n = true) (hj : i.toNatClampNeg = j) (hv : M q j = v) (hdg : decode cc pc = .ok (.baload, 1)) (kk : WM p l e R s m args below meth c cells slots Q D cA A Pl F nL M (pc + 1) lv (.int v :: st)) : WM p l e R s m args below meth c cells slots Q D cA A Pl F nL M pc lv (.int i :: .ref (A q) :: st) := by
  intro H locs hP hS ls hl
  obtain ⟨x, -, hx⟩ := enc_get (cA := cA) (A := A) (M := M) hp
  rw [mc_bool hkd hK, hln] at hx
  subst hj hv
  exact va_zald (D := D) C.1.1 C.1.2.1 C.2.2.2.1 hP x 1 hx rfl (inb_vp hin) hdg (kk H locs hP hS ls hl)
theorem wm_zast {n j q K : Nat} {i x : Int32} (C : Cx p s m args meth c cc own nL D cA A Pl F) (hp : q ∈ Pl) (hkd : kd q = K) (hK : isZ K = true) (hln : ln q = n) (hin : inb i n = true) (hj : i.toNatClampNeg = j) (hz : zb x = true) (hdg : decode cc pc = .ok (.bastore, 1)) (kk : WM p l e R s m args below meth c cells slots Q D cA A Pl F nL (mu M q j x) (pc + 1) lv st) : WM p l e R s m args below meth c cells slots Q D cA A Pl F nL M pc lv (.int x :: .int i :: .ref (A q) :: st) := by
  intro H locs hP hS ls hl
  obtain ⟨z, hz0, hz1⟩ := enc_get (cA := cA) (A := A) (M := M) hp
  rw [mc_bool hkd hK, hln] at hz1
  subst hj
  refine va_zast (D := D) C.1.1 C.1.2.1 C.2.2.2.1 hP (enc_D C.2.2.2.2.1) hS z 1 hz1 rfl (inb_vp hin) hdg (fun H1 locs1 hP1 hD1 hS1 => ?_)
  have hP1 := by rw [zb_p hz] at hP1; exact hP1
  rw [enc_set (M1 := mu M q i.toNatClampNeg x) C.2.2.2.2.1 hz0 (fun r hr => mu_ne hr) (by rw [mu_same, mc_bool hkd hK, hln])] at hP1
  exact kk H1 locs1 hP1 hS1 ls hl
theorem wm_aald15 {j : Nat} {i : Int32} (C : Cx p s m args meth c cc own nL D cA A Pl F) (hp : 15 ∈ Pl) (hin : inb i 6 = true) (hj : i.toNatClampNeg = j) (hdg : decode cc pc = .ok (.aaload, 1)) (kk : WM p l e R s m args below meth c cells slots Q D cA A Pl F nL M (pc + 1) lv (.ref (A (16 + 3 * j)) :: st)) : WM p l e R s m args below meth c cells slots Q D cA A Pl F nL M pc lv (.int i :: .ref (A 15) :: st) := by
  intro H locs hP hS ls hl
  obtain ⟨x, -, hx⟩ := enc_get (cA := cA) (A := A) (M := M) hp
  subst hj
  refine va_aldq (D := D) C.1.1 C.1.2.1 C.2.2.2.1 hP x 2 hx rfl (inb_vp hin) hdg ?_
  exact kk H locs hP hS ls hl
theorem wm_aald54 {j : Nat} {i : Int32} (C : Cx p s m args meth c cc own nL D cA A Pl F) (hp : 54 ∈ Pl) (hin : inb i 4 = true) (hj : i.toNatClampNeg = j) (hdg : decode cc pc = .ok (.aaload, 1)) (kk : WM p l e R s m args below meth c cells slots Q D cA A Pl F nL M (pc + 1) lv (.ref (A (55 + 2 * j)) :: st)) : WM p l e R s m args below meth c cells slots Q D cA A Pl F nL M pc lv (.int i :: .ref (A 54) :: st) := by
  intro H locs hP hS ls hl
  obtain ⟨x, -, hx⟩ := enc_get (cA := cA) (A := A) (M := M) hp
  subst hj
  refine va_aldq (D := D) C.1.1 C.1.2.1 C.2.2.2.1 hP x 3 hx rfl (inb_vp hin) hdg ?_
  exact kk H locs hP hS ls hl
theorem wm_alen {q K : Nat} {v : Int32} (C : Cx p s m args meth c cc own nL D cA A Pl F) (hp : q ∈ Pl) (hkd : kd q = K) (hK : isI K = true) (hv : Int32.ofNat (ln q) = v) (hdg : decode cc pc = .ok (.arraylength, 1)) (kk : WM p l e R s m args below meth c cells slots Q D cA A Pl F nL M (pc + 1) lv (.int v :: st)) : WM p l e R s m args below meth c cells slots Q D cA A Pl F nL M pc lv (.ref (A q) :: st) := by
  intro H locs hP hS ls hl
  obtain ⟨x, -, hx⟩ := enc_get (cA := cA) (A := A) (M := M) hp
  rw [mc_int hkd hK] at hx
  exact va_alen (D := D) C.1.1 C.1.2.1 C.2.2.2.1 hP x 0 hx rfl hv hdg (kk H locs hP hS ls hl)
theorem wm_alen15 (C : Cx p s m args meth c cc own nL D cA A Pl F) (hp : 15 ∈ Pl) (hdg : decode cc pc = .ok (.arraylength, 1)) (kk : WM p l e R s m args below meth c cells slots Q D cA A Pl F nL M (pc + 1) lv (.int 6 :: st)) : WM p l e R s m args below meth c cells slots Q D cA A Pl F nL M pc lv (.ref (A 15) :: st) := by
  intro H locs hP hS ls hl
  obtain ⟨x, -, hx⟩ := enc_get (cA := cA) (A := A) (M := M) hp
  exact va_alen (D := D) C.1.1 C.1.2.1 C.2.2.2.1 hP x 2 hx rfl rfl hdg (kk H locs hP hS ls hl)
theorem wm_gets2000 {idx : Nat} (C : Cx p s m args meth c cc own nL D cA A Pl F) (hw : Cond.fieldLink own idx RX8 "POWERS" "[I" ∈ WT) (hdg : decode cc pc = .ok (.getstatic idx, 3)) (kk : WM p l e R s m args below meth c cells slots Q D cA A Pl F nL M (pc + 3) lv (.ref (A 2000) :: st)) : WM p l e R s m args below meth c cells slots Q D cA A Pl F nL M pc lv st := by
  intro H locs hP hS ls hl
  have hS2 : va_S F s.heap H locs := hS
  exact va_gets (C := RX8) C.1.1 C.1.2.1 C.2.2.2.2.2.1.1 hS2 C.1.2.2.2 (C.2.1 _ hw) (fun _ h => h) hdg (kk H locs hP hS ls hl)
theorem wm_getsNX1_40 (C : Cx p s m args meth c cc own nL D cA A Pl F) (ho : own = RX1) (hdg : decode cc pc = .ok (.getstatic 40, 3)) (kk : WM p l e R s m args below meth c cells slots Q D cA A Pl F nL M (pc + 3) lv (.ref (A 2000) :: st)) : WM p l e R s m args below meth c cells slots Q D cA A Pl F nL M pc lv st := by
  subst ho
  exact fun H locs hP hS ls hl => va_getsN (C := RX8) C.1.1 C.1.2.1 C.2.2.2.2.2.1.1 hS C.1.2.2.2 (va_Nw.use rfl C.2.2.2.2.2.2.2.2.2.1) (fun _ h => h) hdg (kk H locs hP hS ls hl)
theorem wm_getsNX2_18 (C : Cx p s m args meth c cc own nL D cA A Pl F) (ho : own = RX2) (hdg : decode cc pc = .ok (.getstatic 18, 3)) (kk : WM p l e R s m args below meth c cells slots Q D cA A Pl F nL M (pc + 3) lv (.ref (A 2001) :: st)) : WM p l e R s m args below meth c cells slots Q D cA A Pl F nL M pc lv st := by
  subst ho
  exact fun H locs hP hS ls hl => va_getsN (C := RX8) C.1.1 C.1.2.1 C.2.2.2.2.2.2.1.1 hS C.1.2.2.2 (va_Nw.use rfl C.2.2.2.2.2.2.2.2.2.2) (fun _ h => h) hdg (kk H locs hP hS ls hl)
theorem wm_tld2000 {i v : Int32} (C : Cx p s m args meth c cc own nL D cA A Pl F) (hin : inb i 6 = true) (hv : stv 2000 i.toNatClampNeg = v) (hdg : decode cc pc = .ok (.iaload, 1)) (kk : WM p l e R s m args below meth c cells slots Q D cA A Pl F nL M (pc + 1) lv (.int v :: st)) : WM p l e R s m args below meth c cells slots Q D cA A Pl F nL M pc lv (.int i :: .ref (A 2000) :: st) := by
  subst hv
  exact fun H locs hP hS ls hl => va_ti C.1.1 C.1.2.1 C.2.2.2.2.2.1.2 hS (inb_vp hin) rfl hdg (kk H locs hP hS ls hl)
theorem wm_tlen2000 (C : Cx p s m args meth c cc own nL D cA A Pl F) (hdg : decode cc pc = .ok (.arraylength, 1)) (kk : WM p l e R s m args below meth c cells slots Q D cA A Pl F nL M (pc + 1) lv (.int 6 :: st)) : WM p l e R s m args below meth c cells slots Q D cA A Pl F nL M pc lv (.ref (A 2000) :: st) :=
  fun H locs hP hS ls hl => va_tlen C.1.1 C.1.2.1 C.2.2.2.2.2.1.2 hS rfl hdg (kk H locs hP hS ls hl)
theorem wm_tld2001 {i v : Int32} (C : Cx p s m args meth c cc own nL D cA A Pl F) (hin : inb i 6 = true) (hv : stv 2001 i.toNatClampNeg = v) (hdg : decode cc pc = .ok (.iaload, 1)) (kk : WM p l e R s m args below meth c cells slots Q D cA A Pl F nL M (pc + 1) lv (.int v :: st)) : WM p l e R s m args below meth c cells slots Q D cA A Pl F nL M pc lv (.int i :: .ref (A 2001) :: st) := by
  subst hv
  exact fun H locs hP hS ls hl => va_ti C.1.1 C.1.2.1 C.2.2.2.2.2.2.1.2 hS (inb_vp hin) rfl hdg (kk H locs hP hS ls hl)
theorem wm_tlen2001 (C : Cx p s m args meth c cc own nL D cA A Pl F) (hdg : decode cc pc = .ok (.arraylength, 1)) (kk : WM p l e R s m args below meth c cells slots Q D cA A Pl F nL M (pc + 1) lv (.int 6 :: st)) : WM p l e R s m args below meth c cells slots Q D cA A Pl F nL M pc lv (.ref (A 2001) :: st) :=
  fun H locs hP hS ls hl => va_tlen C.1.1 C.1.2.1 C.2.2.2.2.2.2.1.2 hS rfl hdg (kk H locs hP hS ls hl)
theorem wm_aald46 {j : Nat} {i : Int32} (C : Cx p s m args meth c cc own nL D cA A Pl F) (hp : 46 ∈ Pl) (hin : inb i 7 = true) (hj : i.toNatClampNeg = j) (hdg : decode cc pc = .ok (.aaload, 1)) (kk : WM p l e R s m args below meth c cells slots Q D cA A Pl F nL M (pc + 1) lv (.ref (A (47 + j)) :: st)) : WM p l e R s m args below meth c cells slots Q D cA A Pl F nL M pc lv (.int i :: .ref (A 46) :: st) := by
  intro H locs hP hS ls hl
  obtain ⟨x, -, hx⟩ := enc_get (cA := cA) (A := A) (M := M) hp
  subst hj
  have hlt : i.toNatClampNeg < 7 := Nat.not_le.mp fun q => inb_vp hin (Or.inr q)
  have ha : (enc cA A M Pl)[x]? = some (A 46, .inl (cA 4, 7, .inr (.inr (.inr (.inr (fun i => some (A (47 + i)))))))) := hx
  exact W.aald (v := .ref (A (47 + i.toNatClampNeg))) (ty := .array .int) C.1.1 C.1.2.1 (hP x _ ha) ((C.2.2.2.1.2 4 _ rfl).1 7 (fun j => va_rf (some (A (47 + j))))) rfl (fun q => by cases q) (by show ¬ (i < 0 ∨ (arrV _ _ _).slots.size ≤ _); rw [arrV_size]; exact inb_vp hin) (by show (arrV _ _ _).slots[_]? = _; rw [arrV_read _ _ hlt]; rfl) rfl rfl hdg (kk H locs hP hS ls hl)
theorem wt_Mmax_s : Cond.static Lib.Math.max.name ∈ WT := wtm 610 (by decide +kernel)
theorem wt_Mmax_c : Cond.code Lib.Math.max.name Lib.Math.max.code 2 (some .int) ∈ WT := wtm 611 (by decide +kernel)
theorem wt_Mmin_s : Cond.static Lib.Math.min.name ∈ WT := wtm 631 (by decide +kernel)
theorem wt_Mmin_c : Cond.code Lib.Math.min.name Lib.Math.min.code 2 (some .int) ∈ WT := wtm 632 (by decide +kernel)
theorem wt_M_i : Cond.initialized "java/lang/Math" ∈ WT := wtm 82 (by decide +kernel)
theorem wt_S_i : Cond.initialized "java/lang/System" ∈ WT := wtm 84 (by decide +kernel)
theorem wt_S_n : Cond.native arraycopyName ∈ WT := wtm 698 (by decide +kernel)
theorem wt_S_s : Cond.static arraycopyName ∈ WT := wtm 697 (by decide +kernel)
theorem wm_max {h1 idx : Nat} {x y : Int32} (C : Cx p s m args meth c cc own nL D cA A Pl F) (hw : Cond.methodLink own idx Lib.Math.max.name ∈ WT) (hcat : (st.map fun v => v.category).sum ≤ 8) (hh : 1 ≤ h1) (hdg : decode cc pc = .ok (.invokestatic idx, 3)) (kk : WM p l e (RM h1) s m args below meth c 0 0 Q D cA A Pl F nL M (pc + 3) lv (.int (jmax x y) :: st)) : WM p l e (RM h1) s m args below meth c 0 0 Q D cA A Pl F nL M pc lv (.int y :: .int x :: st) :=
  fun H locs hP hS ls hl => va_mmax C.1.1 C.1.2.1 (C.1.2.2.1.trans hl.1.symm) C.1.2.2.2 (C.2.1 _ hw) (C.2.1 _ wt_Mmax_s) (C.2.1 _ wt_M_i) (C.2.1 _ wt_Mmax_c) hh (by show _ ≤ 64 * h1; omega) (Nat.le_refl _) (Nat.le_refl _) hdg (kk H locs hP hS ls hl)
theorem wm_min {h1 idx : Nat} {x y : Int32} (C : Cx p s m args meth c cc own nL D cA A Pl F) (hw : Cond.methodLink own idx Lib.Math.min.name ∈ WT) (hcat : (st.map fun v => v.category).sum ≤ 8) (hh : 1 ≤ h1) (hdg : decode cc pc = .ok (.invokestatic idx, 3)) (kk : WM p l e (RM h1) s m args below meth c 0 0 Q D cA A Pl F nL M (pc + 3) lv (.int (jmin x y) :: st)) : WM p l e (RM h1) s m args below meth c 0 0 Q D cA A Pl F nL M pc lv (.int y :: .int x :: st) :=
  fun H locs hP hS ls hl => va_mmin C.1.1 C.1.2.1 (C.1.2.2.1.trans hl.1.symm) C.1.2.2.2 (C.2.1 _ hw) (C.2.1 _ wt_Mmin_s) (C.2.1 _ wt_M_i) (C.2.1 _ wt_Mmin_c) hh (by show _ ≤ 64 * h1; omega) (Nat.le_refl _) (Nat.le_refl _) hdg (kk H locs hP hS ls hl)
theorem cpk_of {i : Int32} {na : Nat} {j : Int32} {nb : Nat} {n : Int32} (h : cpk i na j nb n = true) : ¬ i < 0 ∧ ¬ j < 0 ∧ ¬ n < 0 ∧ i.toNatClampNeg + n.toNatClampNeg ≤ na ∧ j.toNatClampNeg + n.toNatClampNeg ≤ nb := by
  unfold cpk at h
  simp only [Bool.and_eq_true, decide_eq_true_eq] at h
  exact ⟨h.1.1.1.1, h.1.1.1.2, h.1.1.2, h.1.2, h.2⟩
theorem mcp_ne {M : Mem} {a i b j n q : Nat} (h : q ≠ b) : mcp M a i b j n q = M q := if_neg h
theorem mcp_same {M : Mem} {a i b j n : Nat} : mcp M a i b j n b = va_cpy (M a) (M b) i j n := if_pos rfl
theorem nfw : nativeFrameWords "java/lang/System" "arraycopy" 5 ≤ 40 := by decide +kernel
theorem wm_copy {h1 idx qa qb Ka Kb na nb ja jb jn : Nat} {i j n : Int32} (C : Cx p s m args meth c cc own nL D cA A Pl F) (hw : Cond.methodLink own idx arraycopyName ∈ WT) (hpa : qa ∈ Pl) (hka : kd qa = Ka) (hKa : isI Ka = true) (hla : ln qa = na) (hpb : qb ∈ Pl) (hkb : kd qb = Kb) (hKb : isI Kb = true) (hlb : ln qb = nb) (hh : cpk i na j nb n = true) (hja : i.toNatClampNeg = ja) (hjb : j.toNatClampNeg = jb) (hjn : n.toNatClampNeg = jn) (hcat : (st.map fun v => v.category).sum ≤ 8) (h1p : 1 ≤ h1) (hdg : decode cc pc = .ok (.invokestatic idx, 3)) (kk : WM p l e (RM h1) s m args below meth c 0 0 Q D cA A Pl F nL (mcp M qa ja qb jb jn) (pc + 3) lv st) : WM p l e (RM h1) s m args below meth c 0 0 Q D cA A Pl F nL M pc lv (.int n :: .int j :: .ref (A qb) :: .int i :: .ref (A qa) :: st) := by
  intro H locs hP hS ls hl
  obtain ⟨x, hx0, hx⟩ := enc_get (cA := cA) (A := A) (M := M) hpa
  obtain ⟨y, hy0, hy⟩ := enc_get (cA := cA) (A := A) (M := M) hpb
  rw [mc_int hka hKa, hla] at hx
  rw [mc_int hkb hKb, hlb] at hy
  subst hja hjb hjn
  obtain ⟨c1, c2, c3, c4, c5⟩ := cpk_of hh
  have hn := nfw
  refine va_copyi (D := D) C.1.1 C.1.2.1 (C.1.2.2.1.trans hl.1.symm) C.1.2.2.2 (C.2.1 _ hw) (C.2.1 _ wt_S_n) (C.2.1 _ wt_S_s) (C.2.1 _ wt_S_i) C.2.2.2.1 hP (enc_D C.2.2.2.2.1) hS x y 0 0 hx hy rfl rfl rfl c1 c2 c3 c4 c5 (fun _ _ => rfl) h1p (by show _ ≤ 64 * h1; omega) hdg (fun H1 locs1 hP1 hD1 hS1 => ?_)
  rw [enc_set (M1 := mcp M qa i.toNatClampNeg qb j.toNatClampNeg n.toNatClampNeg) C.2.2.2.2.1 hy0 (fun r hr => mcp_ne hr) (by rw [mcp_same, mc_int hkb hKb, hlb])] at hP1
  exact kk H1 locs1 hP1 hS1 ls hl
end ML
def Pre (D : va_G) (cA : Nat → ClassId) (A : Nat → Nat) (Pl : List Nat) (M : Mem) (U : State) : Prop := va_P D vwCl (enc cA A M Pl) U.heap ∧ va_K D vwCl (tyL cA) U ∧ DD (FA A Pl) A Pl ∧ SO (FA A Pl) A U U.heap
theorem pre_blind {D : va_G} {cA : Nat → ClassId} {A : Nat → Nat} {Pl : List Nat} {M : Mem} {avs : List Value} : FrameBlind (va_Pc avs (Pre D cA A Pl M)) := fun a U g mk q =>
  ⟨q.1, q.2.1, va_K.moved (u := U) (U := U.calling g mk a) (Vm.Alike.refl U.vm) q.2.2.1, q.2.2.2.1, SO.same (u := U) (U := U.calling g mk a) rfl q.2.2.2.2⟩
/-- what the tables say of a method: an instance's, a static one -/
def MIV (y : MethodName) (cb : ByteArray) (nM : Nat) (rt : Option FieldType) (n : Nat) : Prop := Cond.code y cb nM rt ∈ WT ∧ Cond.instanceMethod y ∈ WT ∧ Cond.selects y.cls y y ∈ WT ∧ Cond.initialized y.cls ∈ WT ∧ (y.cls ≠ "java/lang/invoke/MethodHandle" ∧ y.cls ≠ "java/lang/invoke/VarHandle") ∧ (parseMethodDescriptor y.desc).map (fun d => d.parameters.length) = some n
def MIS (y : MethodName) (cb : ByteArray) (nM : Nat) (rt : Option FieldType) (n : Nat) : Prop := Cond.code y cb nM rt ∈ WT ∧ Cond.static y ∈ WT ∧ Cond.initialized y.cls ∈ WT ∧ (y.cls ≠ "java/lang/invoke/MethodHandle" ∧ y.cls ≠ "java/lang/invoke/VarHandle") ∧ (parseMethodDescriptor y.desc).map (fun d => d.parameters.length) = some n
theorem ws_in {y : MethodName} {cb : ByteArray} {nM : Nat} {rt : Option FieldType} (h : Cond.code y cb nM rt ∈ WT) : GoodIn WT (WS y cb nM rt) := fun w hw => (List.mem_cons.mp hw).elim (fun e => ⟨by rw [e]; exact h, by rw [e]; exact good_of_word (wt_good h)⟩) (fun h1 => ⟨h1, good_of_word (wt_good h1)⟩)
theorem fa_F {F : Nat → Prop} {A : Nat → Nat} {Pl : List Nat} (h : DD F A Pl) : ∀ q, FA A Pl q → F q := fun q hq => by
  obtain ⟨p, hp, rfl⟩ := hq
  exact h.2 p hp
theorem dd_fa {F : Nat → Prop} {A : Nat → Nat} {Pl : List Nat} (h : DD F A Pl) : DD (FA A Pl) A Pl := ⟨h.1, fun p hp => ⟨p, hp, rfl⟩⟩
def QI (D : va_G) (cA : Nat → ClassId) (A : Nat → Nat) (Pl : List Nat) (out : Int32 × Mem) : Array Value → State → Outcome → State → Prop := va_Qi (fun (r : Int32) (_ : Unit) => r = out.1) (fun _ t => va_P D vwCl (enc cA A out.2 Pl) t.heap) (FA A Pl)
def CtI (l : Launch) (D : va_G) (cA : Nat → ClassId) (A : Nat → Nat) (Pl : List Nat) (y : MethodName) (cb : ByteArray) (nM h : Nat) (rt : FieldType) (avs : List Value) (M : Mem) (out : Int32 × Mem) : Prop := Met l y (WS y cb nM (some rt)) (RM h) (va_Pc avs (Pre D cA A Pl M)) (QI D cA A Pl out) 0 0 (FA A Pl)
theorem ct_I {l : Launch} {D : va_G} {cA : Nat → ClassId} {A : Nat → Nat} {Pl : List Nat} {y : MethodName} {cb : ByteArray} {nM h : Nat} {rt : FieldType} {avs : List Value} {M : Mem} {out : Int32 × Mem} (hy : plainName y.cls = true) (hn : (lg_sl avs).length ≤ nM) (body : ∀ (p : Program) (e : Env) (s : State) (m : MethodId) (args : Array Value) (below : List Frame) (meth : Method) (c : Code), Cx p s m args meth c cb y.cls nM D cA A Pl (FA A Pl) → meth.sig.returnType = (some rt) → WM p l e (RM h) s m args below meth c 0 0 (MQ below (QI D cA A Pl out) args s 0 0 (FA A Pl)) D cA A Pl (FA A Pl) nM M 0 (lv_args 0 avs) []) : CtI l D cA A Pl y cb nM h rt avs M out := by
  refine Met.ofW (cc := cb) (maxL := nM) (ret := (some rt)) hy rfl ?_
  intro p e s m args below meth c s1 B hml hv
  obtain ⟨rfl, hP, hK, hD, hS⟩ := hv
  have hts := atoms_spec (ws := WS y cb nM (some rt)) B.pre
  rw [lg_entry_eq]
  exact body p e s m _ below meth c ⟨⟨B.exec, B.bytes, hml, findClass_of_methodNamed B.named⟩, fun w hw => hts w (List.mem_cons_of_mem _ hw), B.notSynchronized, hK, hD, hS⟩ B.returns s.heap [] hP va_S.rf _ (lv_entry avs hn)
def QL (D : va_G) (cA : Nat → ClassId) (A : Nat → Nat) (Pl : List Nat) (out : Int64 × Mem) : Array Value → State → Outcome → State → Prop := va_Ql (fun (r : Int64) (_ : Unit) => r = out.1) (fun _ t => va_P D vwCl (enc cA A out.2 Pl) t.heap) (FA A Pl)
def CtL (l : Launch) (D : va_G) (cA : Nat → ClassId) (A : Nat → Nat) (Pl : List Nat) (y : MethodName) (cb : ByteArray) (nM h : Nat)  (avs : List Value) (M : Mem) (out : Int64 × Mem) : Prop := Met l y (WS y cb nM (some .long)) (RM h) (va_Pc avs (Pre D cA A Pl M)) (QL D cA A Pl out) 0 0 (FA A Pl)
theorem ct_L {l : Launch} {D : va_G} {cA : Nat → ClassId} {A : Nat → Nat} {Pl : List Nat} {y : MethodName} {cb : ByteArray} {nM h : Nat}  {avs : List Value} {M : Mem} {out : Int64 × Mem} (hy : plainName y.cls = true) (hn : (lg_sl avs).length ≤ nM) (body : ∀ (p : Program) (e : Env) (s : State) (m : MethodId) (args : Array Value) (below : List Frame) (meth : Method) (c : Code), Cx p s m args meth c cb y.cls nM D cA A Pl (FA A Pl) → meth.sig.returnType = (some .long) → WM p l e (RM h) s m args below meth c 0 0 (MQ below (QL D cA A Pl out) args s 0 0 (FA A Pl)) D cA A Pl (FA A Pl) nM M 0 (lv_args 0 avs) []) : CtL l D cA A Pl y cb nM h avs M out := by
  refine Met.ofW (cc := cb) (maxL := nM) (ret := (some .long)) hy rfl ?_
  intro p e s m args below meth c s1 B hml hv
  obtain ⟨rfl, hP, hK, hD, hS⟩ := hv
  have hts := atoms_spec (ws := WS y cb nM (some .long)) B.pre
  rw [lg_entry_eq]
  exact body p e s m _ below meth c ⟨⟨B.exec, B.bytes, hml, findClass_of_methodNamed B.named⟩, fun w hw => hts w (List.mem_cons_of_mem _ hw), B.notSynchronized, hK, hD, hS⟩ B.returns s.heap [] hP va_S.rf _ (lv_entry avs hn)
def QV (D : va_G) (cA : Nat → ClassId) (A : Nat → Nat) (Pl : List Nat) (out : Mem) : Array Value → State → Outcome → State → Prop := va_Qv (fun (_ : Unit) => True) (fun _ t => va_P D vwCl (enc cA A out Pl) t.heap) (FA A Pl)
def CtV (l : Launch) (D : va_G) (cA : Nat → ClassId) (A : Nat → Nat) (Pl : List Nat) (y : MethodName) (cb : ByteArray) (nM h : Nat)  (avs : List Value) (M : Mem) (out : Mem) : Prop := Met l y (WS y cb nM none) (RM h) (va_Pc avs (Pre D cA A Pl M)) (QV D cA A Pl out) 0 0 (FA A Pl)
theorem ct_V {l : Launch} {D : va_G} {cA : Nat → ClassId} {A : Nat → Nat} {Pl : List Nat} {y : MethodName} {cb : ByteArray} {nM h : Nat}  {avs : List Value} {M : Mem} {out : Mem} (hy : plainName y.cls = true) (hn : (lg_sl avs).length ≤ nM) (body : ∀ (p : Program) (e : Env) (s : State) (m : MethodId) (args : Array Value) (below : List Frame) (meth : Method) (c : Code), Cx p s m args meth c cb y.cls nM D cA A Pl (FA A Pl) → meth.sig.returnType = none → WM p l e (RM h) s m args below meth c 0 0 (MQ below (QV D cA A Pl out) args s 0 0 (FA A Pl)) D cA A Pl (FA A Pl) nM M 0 (lv_args 0 avs) []) : CtV l D cA A Pl y cb nM h avs M out := by
  refine Met.ofW (cc := cb) (maxL := nM) (ret := none) hy rfl ?_
  intro p e s m args below meth c s1 B hml hv
  obtain ⟨rfl, hP, hK, hD, hS⟩ := hv
  have hts := atoms_spec (ws := WS y cb nM none) B.pre
  rw [lg_entry_eq]
  exact body p e s m _ below meth c ⟨⟨B.exec, B.bytes, hml, findClass_of_methodNamed B.named⟩, fun w hw => hts w (List.mem_cons_of_mem _ hw), B.notSynchronized, hK, hD, hS⟩ B.returns s.heap [] hP va_S.rf _ (lv_entry avs hn)
section MC
variable {p : Program} {l : Launch} {e : Env} {s : State} {m : MethodId} {args : Array Value} {below : List Frame} {meth : Method} {c : Code} {Q : State → Prop}
variable {cc : ByteArray} {own : String} {nL : Nat} {D : va_G} {cA : Nat → ClassId} {A : Nat → Nat} {Pl : List Nat} {F : Nat → Prop} {M : Mem} {pc : Nat} {lv : List (Nat × Value)} {st : List Value}
theorem wm_callVi {y : MethodName} {cb : ByteArray} {nM h h1 idx n : Nat} {rt : FieldType} {ci q N : Nat} {T : u_T} {As stk : List Value} {out : Int32 × Mem} (C : Cx p s m args meth c cc own nL D cA A Pl F) (hM : CtI l D cA A Pl y cb nM h rt (.ref (A q) :: As) M out) (hmi : MIV y cb nM (some rt) n) (hml : Cond.methodLink own idx y ∈ WT) (hp : q ∈ Pl) (hci : kd q = ci) (hcl : vwCl[ci]? = some (y.cls, T, N)) (hn : As.length = n) (hst : stk = As.reverse ++ .ref (A q) :: st) (hh : h < h1) (hnM : nM ≤ 40) (hcat : (st.map fun v => v.category).sum ≤ 8) (hdg : decode cc pc = .ok (.invokevirtual idx, 3)) (kk : WM p l e (RM h1) s m args below meth c 0 0 Q D cA A Pl F nL out.2 (pc + 3) lv (.int out.1 :: st)) : WM p l e (RM h1) s m args below meth c 0 0 Q D cA A Pl F nL M pc lv stk := by
  subst hst
  intro H locs hP hS ls hl
  obtain ⟨i0, -, hi0⟩ := enc_get (cA := cA) (A := A) (M := M) hp
  have hc9 : ci < 9 := (List.getElem?_eq_some_iff.mp hcl).1
  rw [mc_obj hci hc9] at hi0
  have hrec := va_recv C.2.2.2.1 hP hcl hi0
  refine va_calli (va_runV (As := As) (rest := st) (nL := nL) ⟨C.1.1, C.1.2.1, C.1.2.2.1, C.1.2.2.2, C.2.1⟩ hM ⟨callB_of n C.2.1 (ws_in hmi.1) rfl rfl rfl (C.2.1 _ hmi.2.2.2.1) (C.2.1 _ hml) ⟨hmi.2.2.2.2.1.1, hmi.2.2.2.2.1.2, hmi.2.2.2.2.2⟩ ⟨by show h + 1 ≤ h1; omega, by show 8 + (nM + 11) + 64 * h ≤ 64 * h1; omega⟩, C.2.1 _ hmi.2.1, C.2.1 _ hmi.2.2.1⟩ ⟨pre_blind, hrec, fun U hU hW => ⟨rfl, by rw [hU]; exact hP, va_K.moved hW.alike C.2.2.2.1, dd_fa C.2.2.2.2.1, by rw [hU]; exact SO.narrow (SO.warm hW (C.2.2.2.2.2.kept hS.2.1)) (fa_F C.2.2.2.2.1)⟩⟩ rfl hn hl.1 rfl (lv_room hcat) hdg ⟨Nat.le_refl _, Nat.le_refl _⟩) hS (fun q _ hq => fa_F C.2.2.2.2.1 q hq) (fa_F C.2.2.2.2.1) (fun r u t H1 locs1 ht hvm hw hB hz hk hS1 => ?_)
  have hw1 : r = out.1 := hw
  subst hw1
  rw [ht] at hB
  exact kk H1 locs1 hB hS1 ls hl
theorem wm_callSi {y : MethodName} {cb : ByteArray} {nM h h1 idx n : Nat} {rt : FieldType} {As stk : List Value} {out : Int32 × Mem} (C : Cx p s m args meth c cc own nL D cA A Pl F) (hM : CtI l D cA A Pl y cb nM h rt As M out) (hmi : MIS y cb nM (some rt) n) (hml : Cond.methodLink own idx y ∈ WT) (hn : As.length = n) (hst : stk = As.reverse ++ st) (hh : h < h1) (hnM : nM ≤ 40) (hcat : (st.map fun v => v.category).sum ≤ 8) (hdg : decode cc pc = .ok (.invokestatic idx, 3)) (kk : WM p l e (RM h1) s m args below meth c 0 0 Q D cA A Pl F nL out.2 (pc + 3) lv (.int out.1 :: st)) : WM p l e (RM h1) s m args below meth c 0 0 Q D cA A Pl F nL M pc lv stk := by
  subst hst
  intro H locs hP hS ls hl
  refine va_calli (va_runS (As := As) (rest := st) (nL := nL) ⟨C.1.1, C.1.2.1, C.1.2.2.1, C.1.2.2.2, C.2.1⟩ hM ⟨callB_of n C.2.1 (ws_in hmi.1) rfl rfl rfl (C.2.1 _ hmi.2.2.1) (C.2.1 _ hml) ⟨hmi.2.2.2.1.1, hmi.2.2.2.1.2, hmi.2.2.2.2⟩ ⟨by show h + 1 ≤ h1; omega, by show 8 + (nM + 11) + 64 * h ≤ 64 * h1; omega⟩, C.2.1 _ hmi.2.1⟩ ⟨pre_blind, fun U hU hW => ⟨rfl, by rw [hU]; exact hP, va_K.moved hW.alike C.2.2.2.1, dd_fa C.2.2.2.2.1, by rw [hU]; exact SO.narrow (SO.warm hW (C.2.2.2.2.2.kept hS.2.1)) (fa_F C.2.2.2.2.1)⟩⟩ rfl hn hl.1 rfl (lv_room hcat) hdg ⟨Nat.le_refl _, Nat.le_refl _⟩) hS (fun q _ hq => fa_F C.2.2.2.2.1 q hq) (fa_F C.2.2.2.2.1) (fun r u t H1 locs1 ht hvm hw hB hz hk hS1 => ?_)
  have hw1 : r = out.1 := hw
  subst hw1
  rw [ht] at hB
  exact kk H1 locs1 hB hS1 ls hl
theorem wm_callVl {y : MethodName} {cb : ByteArray} {nM h h1 idx n : Nat} {ci q N : Nat} {T : u_T} {As stk : List Value} {out : Int64 × Mem} (C : Cx p s m args meth c cc own nL D cA A Pl F) (hM : CtL l D cA A Pl y cb nM h (.ref (A q) :: As) M out) (hmi : MIV y cb nM (some .long) n) (hml : Cond.methodLink own idx y ∈ WT) (hp : q ∈ Pl) (hci : kd q = ci) (hcl : vwCl[ci]? = some (y.cls, T, N)) (hn : As.length = n) (hst : stk = As.reverse ++ .ref (A q) :: st) (hh : h < h1) (hnM : nM ≤ 40) (hcat : (st.map fun v => v.category).sum ≤ 8) (hdg : decode cc pc = .ok (.invokevirtual idx, 3)) (kk : WM p l e (RM h1) s m args below meth c 0 0 Q D cA A Pl F nL out.2 (pc + 3) lv (.long out.1 :: st)) : WM p l e (RM h1) s m args below meth c 0 0 Q D cA A Pl F nL M pc lv stk := by
  subst hst
  intro H locs hP hS ls hl
  obtain ⟨i0, -, hi0⟩ := enc_get (cA := cA) (A := A) (M := M) hp
  have hc9 : ci < 9 := (List.getElem?_eq_some_iff.mp hcl).1
  rw [mc_obj hci hc9] at hi0
  have hrec := va_recv C.2.2.2.1 hP hcl hi0
  refine va_calll (va_runV (As := As) (rest := st) (nL := nL) ⟨C.1.1, C.1.2.1, C.1.2.2.1, C.1.2.2.2, C.2.1⟩ hM ⟨callB_of n C.2.1 (ws_in hmi.1) rfl rfl rfl (C.2.1 _ hmi.2.2.2.1) (C.2.1 _ hml) ⟨hmi.2.2.2.2.1.1, hmi.2.2.2.2.1.2, hmi.2.2.2.2.2⟩ ⟨by show h + 1 ≤ h1; omega, by show 8 + (nM + 11) + 64 * h ≤ 64 * h1; omega⟩, C.2.1 _ hmi.2.1, C.2.1 _ hmi.2.2.1⟩ ⟨pre_blind, hrec, fun U hU hW => ⟨rfl, by rw [hU]; exact hP, va_K.moved hW.alike C.2.2.2.1, dd_fa C.2.2.2.2.1, by rw [hU]; exact SO.narrow (SO.warm hW (C.2.2.2.2.2.kept hS.2.1)) (fa_F C.2.2.2.2.1)⟩⟩ rfl hn hl.1 rfl (lv_room hcat) hdg ⟨Nat.le_refl _, Nat.le_refl _⟩) hS (fun q _ hq => fa_F C.2.2.2.2.1 q hq) (fa_F C.2.2.2.2.1) (fun r u t H1 locs1 ht hvm hw hB hz hk hS1 => ?_)
  have hw1 : r = out.1 := hw
  subst hw1
  rw [ht] at hB
  exact kk H1 locs1 hB hS1 ls hl
theorem wm_callSl {y : MethodName} {cb : ByteArray} {nM h h1 idx n : Nat} {As stk : List Value} {out : Int64 × Mem} (C : Cx p s m args meth c cc own nL D cA A Pl F) (hM : CtL l D cA A Pl y cb nM h As M out) (hmi : MIS y cb nM (some .long) n) (hml : Cond.methodLink own idx y ∈ WT) (hn : As.length = n) (hst : stk = As.reverse ++ st) (hh : h < h1) (hnM : nM ≤ 40) (hcat : (st.map fun v => v.category).sum ≤ 8) (hdg : decode cc pc = .ok (.invokestatic idx, 3)) (kk : WM p l e (RM h1) s m args below meth c 0 0 Q D cA A Pl F nL out.2 (pc + 3) lv (.long out.1 :: st)) : WM p l e (RM h1) s m args below meth c 0 0 Q D cA A Pl F nL M pc lv stk := by
  subst hst
  intro H locs hP hS ls hl
  refine va_calll (va_runS (As := As) (rest := st) (nL := nL) ⟨C.1.1, C.1.2.1, C.1.2.2.1, C.1.2.2.2, C.2.1⟩ hM ⟨callB_of n C.2.1 (ws_in hmi.1) rfl rfl rfl (C.2.1 _ hmi.2.2.1) (C.2.1 _ hml) ⟨hmi.2.2.2.1.1, hmi.2.2.2.1.2, hmi.2.2.2.2⟩ ⟨by show h + 1 ≤ h1; omega, by show 8 + (nM + 11) + 64 * h ≤ 64 * h1; omega⟩, C.2.1 _ hmi.2.1⟩ ⟨pre_blind, fun U hU hW => ⟨rfl, by rw [hU]; exact hP, va_K.moved hW.alike C.2.2.2.1, dd_fa C.2.2.2.2.1, by rw [hU]; exact SO.narrow (SO.warm hW (C.2.2.2.2.2.kept hS.2.1)) (fa_F C.2.2.2.2.1)⟩⟩ rfl hn hl.1 rfl (lv_room hcat) hdg ⟨Nat.le_refl _, Nat.le_refl _⟩) hS (fun q _ hq => fa_F C.2.2.2.2.1 q hq) (fa_F C.2.2.2.2.1) (fun r u t H1 locs1 ht hvm hw hB hz hk hS1 => ?_)
  have hw1 : r = out.1 := hw
  subst hw1
  rw [ht] at hB
  exact kk H1 locs1 hB hS1 ls hl
theorem wm_callVv {y : MethodName} {cb : ByteArray} {nM h h1 idx n : Nat} {ci q N : Nat} {T : u_T} {As stk : List Value} {out : Mem} (C : Cx p s m args meth c cc own nL D cA A Pl F) (hM : CtV l D cA A Pl y cb nM h (.ref (A q) :: As) M out) (hmi : MIV y cb nM none n) (hml : Cond.methodLink own idx y ∈ WT) (hp : q ∈ Pl) (hci : kd q = ci) (hcl : vwCl[ci]? = some (y.cls, T, N)) (hn : As.length = n) (hst : stk = As.reverse ++ .ref (A q) :: st) (hh : h < h1) (hnM : nM ≤ 40) (hcat : (st.map fun v => v.category).sum ≤ 8) (hdg : decode cc pc = .ok (.invokevirtual idx, 3)) (kk : WM p l e (RM h1) s m args below meth c 0 0 Q D cA A Pl F nL out (pc + 3) lv (st)) : WM p l e (RM h1) s m args below meth c 0 0 Q D cA A Pl F nL M pc lv stk := by
  subst hst
  intro H locs hP hS ls hl
  obtain ⟨i0, -, hi0⟩ := enc_get (cA := cA) (A := A) (M := M) hp
  have hc9 : ci < 9 := (List.getElem?_eq_some_iff.mp hcl).1
  rw [mc_obj hci hc9] at hi0
  have hrec := va_recv C.2.2.2.1 hP hcl hi0
  refine va_callv (va_runV (As := As) (rest := st) (nL := nL) ⟨C.1.1, C.1.2.1, C.1.2.2.1, C.1.2.2.2, C.2.1⟩ hM ⟨callB_of n C.2.1 (ws_in hmi.1) rfl rfl rfl (C.2.1 _ hmi.2.2.2.1) (C.2.1 _ hml) ⟨hmi.2.2.2.2.1.1, hmi.2.2.2.2.1.2, hmi.2.2.2.2.2⟩ ⟨by show h + 1 ≤ h1; omega, by show 8 + (nM + 11) + 64 * h ≤ 64 * h1; omega⟩, C.2.1 _ hmi.2.1, C.2.1 _ hmi.2.2.1⟩ ⟨pre_blind, hrec, fun U hU hW => ⟨rfl, by rw [hU]; exact hP, va_K.moved hW.alike C.2.2.2.1, dd_fa C.2.2.2.2.1, by rw [hU]; exact SO.narrow (SO.warm hW (C.2.2.2.2.2.kept hS.2.1)) (fa_F C.2.2.2.2.1)⟩⟩ rfl hn hl.1 rfl (lv_room hcat) hdg ⟨Nat.le_refl _, Nat.le_refl _⟩) hS (fun q _ hq => fa_F C.2.2.2.2.1 q hq) (fa_F C.2.2.2.2.1) (fun u t H1 locs1 ht hvm hw hB hz hk hS1 => ?_)
  rw [ht] at hB
  exact kk H1 locs1 hB hS1 ls hl
theorem wm_callSv {y : MethodName} {cb : ByteArray} {nM h h1 idx n : Nat} {As stk : List Value} {out : Mem} (C : Cx p s m args meth c cc own nL D cA A Pl F) (hM : CtV l D cA A Pl y cb nM h As M out) (hmi : MIS y cb nM none n) (hml : Cond.methodLink own idx y ∈ WT) (hn : As.length = n) (hst : stk = As.reverse ++ st) (hh : h < h1) (hnM : nM ≤ 40) (hcat : (st.map fun v => v.category).sum ≤ 8) (hdg : decode cc pc = .ok (.invokestatic idx, 3)) (kk : WM p l e (RM h1) s m args below meth c 0 0 Q D cA A Pl F nL out (pc + 3) lv (st)) : WM p l e (RM h1) s m args below meth c 0 0 Q D cA A Pl F nL M pc lv stk := by
  subst hst
  intro H locs hP hS ls hl
  refine va_callv (va_runS (As := As) (rest := st) (nL := nL) ⟨C.1.1, C.1.2.1, C.1.2.2.1, C.1.2.2.2, C.2.1⟩ hM ⟨callB_of n C.2.1 (ws_in hmi.1) rfl rfl rfl (C.2.1 _ hmi.2.2.1) (C.2.1 _ hml) ⟨hmi.2.2.2.1.1, hmi.2.2.2.1.2, hmi.2.2.2.2⟩ ⟨by show h + 1 ≤ h1; omega, by show 8 + (nM + 11) + 64 * h ≤ 64 * h1; omega⟩, C.2.1 _ hmi.2.1⟩ ⟨pre_blind, fun U hU hW => ⟨rfl, by rw [hU]; exact hP, va_K.moved hW.alike C.2.2.2.1, dd_fa C.2.2.2.2.1, by rw [hU]; exact SO.narrow (SO.warm hW (C.2.2.2.2.2.kept hS.2.1)) (fa_F C.2.2.2.2.1)⟩⟩ rfl hn hl.1 rfl (lv_room hcat) hdg ⟨Nat.le_refl _, Nat.le_refl _⟩) hS (fun q _ hq => fa_F C.2.2.2.2.1 q hq) (fa_F C.2.2.2.2.1) (fun u t H1 locs1 ht hvm hw hB hz hk hS1 => ?_)
  rw [ht] at hB
  exact kk H1 locs1 hB hS1 ls hl
theorem wm_iret {h1 : Nat} {v : Int32} {out : Int32 × Mem} (C : Cx p s m args meth c cc own nL D cA A Pl (FA A Pl)) (hrt : meth.sig.returnType = some .int) (hf : some (v, M) = some out) (hdg : decode cc pc = .ok (.ireturn, 1)) : WM p l e (RM h1) s m args below meth c 0 0 (MQ below (QI D cA A Pl out) args s 0 0 (FA A Pl)) D cA A Pl (FA A Pl) nL M pc lv [.int v] := by
  cases hf
  exact fun H locs hP hS ls hl => W.iret C.1.1 C.1.2.1 hrt (fun t ht hW => ⟨⟨v, (), rfl, rfl, by show va_P D vwCl _ t.heap; rw [ht]; exact hP⟩, hS.F ht⟩) hS.2.2 hdg C.2.2.1
theorem wm_zret {h1 : Nat} {v : Int32} {ty : FieldType} {out : Int32 × Mem} (C : Cx p s m args meth c cc own nL D cA A Pl (FA A Pl)) (hrt : meth.sig.returnType = some ty) (hn : narrow ty (.int v) = .int v) (hf : some (v, M) = some out) (hdg : decode cc pc = .ok (.ireturn, 1)) : WM p l e (RM h1) s m args below meth c 0 0 (MQ below (QI D cA A Pl out) args s 0 0 (FA A Pl)) D cA A Pl (FA A Pl) nL M pc lv [.int v] := by
  cases hf
  exact fun H locs hP hS ls hl => W.zret C.1.1 C.1.2.1 hrt hn (fun t ht hW => ⟨⟨v, (), rfl, rfl, by show va_P D vwCl _ t.heap; rw [ht]; exact hP⟩, hS.F ht⟩) hS.2.2 hdg C.2.2.1
theorem wm_lret {h1 : Nat} {v : Int64} {out : Int64 × Mem} (C : Cx p s m args meth c cc own nL D cA A Pl (FA A Pl)) (hrt : meth.sig.returnType = some .long) (hf : some (v, M) = some out) (hdg : decode cc pc = .ok (.lreturn, 1)) : WM p l e (RM h1) s m args below meth c 0 0 (MQ below (QL D cA A Pl out) args s 0 0 (FA A Pl)) D cA A Pl (FA A Pl) nL M pc lv [.long v] := by
  cases hf
  exact fun H locs hP hS ls hl => W.lret C.1.1 C.1.2.1 hrt (fun t ht hW => ⟨⟨v, (), rfl, rfl, by show va_P D vwCl _ t.heap; rw [ht]; exact hP⟩, hS.F ht⟩) hS.2.2 hdg C.2.2.1
theorem wm_vret {h1 : Nat} {out : Mem} (C : Cx p s m args meth c cc own nL D cA A Pl (FA A Pl)) (hrt : meth.sig.returnType = none) (hf : some M = some out) (hdg : decode cc pc = .ok (.return_, 1)) : WM p l e (RM h1) s m args below meth c 0 0 (MQ below (QV D cA A Pl out) args s 0 0 (FA A Pl)) D cA A Pl (FA A Pl) nL M pc lv [] := by
  cases hf
  exact fun H locs hP hS ls hl => W.vret C.1.1 C.1.2.1 hrt (fun t ht hW => ⟨⟨(), rfl, trivial, by show va_P D vwCl _ t.heap; rw [ht]; exact hP⟩, hS.F ht⟩) hS.2.2 hdg C.2.2.1
end MC
theorem kd_hi {q : Nat} (h : 118 ≤ q) : kd q = 99 := by
  unfold kd
  rw [if_neg (by omega)]
  rw [List.getD_eq_getElem?_getD, List.getElem?_eq_none (by show 18 ≤ q - 100; omega)]
  rfl
theorem kd_in {K lo hi : Nat} (hK : ¬ K = 99) (hd : ∀ q, q < 118 → kd q = K → lo ≤ q ∧ q < hi) {q : Nat} (h : kd q = K) : lo ≤ q ∧ q < hi := by
  rcases Nat.lt_or_ge q 118 with hq | hq
  · exact hd q hq h
  · rw [kd_hi hq] at h
    exact absurd h.symm hK
theorem kr5_d : ∀ q, q < 118 → kd q = 5 → 0 ≤ q ∧ q < 63 := by decide +kernel
theorem kr5 {Pl : List Nat} {q : Nat} (hPl : ∀ q, 0 ≤ q → q < 63 → q ∈ Pl) (h : kd q = 5) : q ∈ Pl := have z := kd_in (by decide) kr5_d h; hPl q z.1 z.2
theorem kr6_d : ∀ q, q < 118 → kd q = 6 → 0 ≤ q ∧ q < 63 := by decide +kernel
theorem kr6 {Pl : List Nat} {q : Nat} (hPl : ∀ q, 0 ≤ q → q < 63 → q ∈ Pl) (h : kd q = 6) : q ∈ Pl := have z := kd_in (by decide) kr6_d h; hPl q z.1 z.2
theorem kr10_d : ∀ q, q < 118 → kd q = 10 → 0 ≤ q ∧ q < 63 := by decide +kernel
theorem kr10 {Pl : List Nat} {q : Nat} (hPl : ∀ q, 0 ≤ q → q < 63 → q ∈ Pl) (h : kd q = 10) : q ∈ Pl := have z := kd_in (by decide) kr10_d h; hPl q z.1 z.2
theorem kr30_d : ∀ q, q < 118 → kd q = 30 → 0 ≤ q ∧ q < 63 := by decide +kernel
theorem kr30 {Pl : List Nat} {q : Nat} (hPl : ∀ q, 0 ≤ q → q < 63 → q ∈ Pl) (h : kd q = 30) : q ∈ Pl := have z := kd_in (by decide) kr30_d h; hPl q z.1 z.2
theorem krr6_d : ∀ q, q < 118 → kd q = 6 → 16 ≤ q ∧ q < 36 := by decide +kernel
theorem krr6 {Pl : List Nat} {q : Nat} (hPl : ∀ q, 16 ≤ q → q < 36 → q ∈ Pl) (h : kd q = 6) : q ∈ Pl := have z := kd_in (by decide) krr6_d h; hPl q z.1 z.2
theorem krr30_d : ∀ q, q < 118 → kd q = 30 → 16 ≤ q ∧ q < 36 := by decide +kernel
theorem krr30 {Pl : List Nat} {q : Nat} (hPl : ∀ q, 16 ≤ q → q < 36 → q ∈ Pl) (h : kd q = 30) : q ∈ Pl := have z := kd_in (by decide) krr30_d h; hPl q z.1 z.2
end
section
/-! the words of the tables that the walks use -/
theorem wt_X0_104 : Cond.methodLink RX0 104 yX2_fed ∈ WT := wtm 634 (by decide +kernel)
theorem wt_X0_107 : Cond.methodLink RX0 107 yX2_toll ∈ WT := wtm 638 (by decide +kernel)
theorem wt_X0_109 : Cond.methodLink RX0 109 yX2_signs ∈ WT := wtm 641 (by decide +kernel)
theorem wt_X0_113 : Cond.methodLink RX0 113 yX7_value ∈ WT := wtm 620 (by decide +kernel)
theorem wt_X0_117 : Cond.methodLink RX0 117 yX0_cross ∈ WT := wtm 668 (by decide +kernel)
theorem wt_X0_121 : Cond.methodLink RX0 121 yX0_judge ∈ WT := wtm 669 (by decide +kernel)
theorem wt_X0_124 : Cond.methodLink RX0 124 yX0_isCooked ∈ WT := wtm 784 (by decide +kernel)
theorem wt_X0_128 : Cond.methodLink RX0 128 yX0_worth ∈ WT := wtm 785 (by decide +kernel)
theorem wt_X0_132 : Cond.fieldLink RX0 132 RX6 "items" "[I" ∈ WT := wtm 204 (by decide +kernel)
theorem wt_X0_15 : Cond.fieldLink RX0 15 RX0 "number" "I" ∈ WT := wtm 365 (by decide +kernel)
theorem wt_X0_18 : Cond.fieldLink RX0 18 RX0 "hour" "I" ∈ WT := wtm 366 (by decide +kernel)
theorem wt_X0_21 : Cond.fieldLink RX0 21 RX0 "prides" "[I" ∈ WT := wtm 367 (by decide +kernel)
theorem wt_X0_25 : Cond.fieldLink RX0 25 RX0 "needs" "[I" ∈ WT := wtm 368 (by decide +kernel)
theorem wt_X0_28 : Cond.fieldLink RX0 28 RX0 "needsTogether" "I" ∈ WT := wtm 369 (by decide +kernel)
theorem wt_X0_33 : Cond.fieldLink RX0 33 RX0 "names" "[I" ∈ WT := wtm 370 (by decide +kernel)
theorem wt_X0_36 : Cond.fieldLink RX0 36 RX0 "stack" "[I" ∈ WT := wtm 371 (by decide +kernel)
theorem wt_X0_39 : Cond.fieldLink RX0 39 RX0 "crossing" "[I" ∈ WT := wtm 372 (by decide +kernel)
theorem wt_X0_42 : Cond.fieldLink RX0 42 RX0 "signed" "[Z" ∈ WT := wtm 373 (by decide +kernel)
theorem wt_X0_46 : Cond.fieldLink RX0 46 RX0 "canBe" "Z" ∈ WT := wtm 375 (by decide +kernel)
theorem wt_X0_50 : Cond.fieldLink RX0 50 RX0 "crosses" "I" ∈ WT := wtm 377 (by decide +kernel)
theorem wt_X0_53 : Cond.fieldLink RX0 53 RX0 "toll" "I" ∈ WT := wtm 379 (by decide +kernel)
theorem wt_X0_56 : Cond.fieldLink RX0 56 RX0 "fed" "I" ∈ WT := wtm 383 (by decide +kernel)
theorem wt_X0_59 : Cond.fieldLink RX0 59 RX0 "texts" "[LMenuIsATreaty$Text;" ∈ WT := wtm 362 (by decide +kernel)
theorem wt_X0_63 : Cond.fieldLink RX0 63 RX0 "rule" "LMenuIsATreaty$Text;" ∈ WT := wtm 363 (by decide +kernel)
theorem wt_X0_67 : Cond.fieldLink RX0 67 RX1 "kinds" "[I" ∈ WT := wtm 107 (by decide +kernel)
theorem wt_X0_72 : Cond.fieldLink RX0 72 RX1 "numbers" "[I" ∈ WT := wtm 110 (by decide +kernel)
theorem wt_X0_75 : Cond.fieldLink RX0 75 RX1 "hour" "I" ∈ WT := wtm 121 (by decide +kernel)
theorem wt_X0_76 : Cond.fieldLink RX0 76 RX1 "prides" "[I" ∈ WT := wtm 104 (by decide +kernel)
theorem wt_X0_77 : Cond.methodLink RX0 77 yX1_needsOf ∈ WT := wtm 599 (by decide +kernel)
theorem wt_X0_81 : Cond.methodLink RX0 81 yX1_needsTogether ∈ WT := wtm 600 (by decide +kernel)
theorem wt_X0_84 : Cond.fieldLink RX0 84 RX1 "rule" "I" ∈ WT := wtm 124 (by decide +kernel)
theorem wt_X0_86 : Cond.methodLink RX0 86 yX0_ruleBy ∈ WT := wtm 601 (by decide +kernel)
theorem wt_X0_9 : Cond.fieldLink RX0 9 RX0 "kind" "I" ∈ WT := wtm 364 (by decide +kernel)
theorem wt_X0_90 : Cond.methodLink RX0 90 Lib.Math.max.name ∈ WT := wtm 609 (by decide +kernel)
theorem wt_X0_95 : Cond.methodLink RX0 95 yX0_ask ∈ WT := wtm 616 (by decide +kernel)
theorem wt_X0_99 : Cond.methodLink RX0 99 yX2_bounded ∈ WT := wtm 627 (by decide +kernel)
theorem wt_X1_15 : Cond.fieldLink RX1 15 RX1 "prides" "[I" ∈ WT := wtm 103 (by decide +kernel)
theorem wt_X1_18 : Cond.fieldLink RX1 18 RX1 "kinds" "[I" ∈ WT := wtm 106 (by decide +kernel)
theorem wt_X1_21 : Cond.fieldLink RX1 21 RX1 "numbers" "[I" ∈ WT := wtm 109 (by decide +kernel)
theorem wt_X1_24 : Cond.fieldLink RX1 24 RX1 "needs" "[I" ∈ WT := wtm 112 (by decide +kernel)
theorem wt_X1_27 : Cond.fieldLink RX1 27 RX1 "cooked" "[I" ∈ WT := wtm 114 (by decide +kernel)
theorem wt_X1_30 : Cond.fieldLink RX1 30 RX1 "dishCount" "I" ∈ WT := wtm 116 (by decide +kernel)
theorem wt_X1_34 : Cond.fieldLink RX1 34 RX1 "hour" "I" ∈ WT := wtm 120 (by decide +kernel)
theorem wt_X1_37 : Cond.fieldLink RX1 37 RX1 "rule" "I" ∈ WT := wtm 123 (by decide +kernel)
theorem wt_X1_43 : Cond.methodLink RX1 43 yX1_needsOf ∈ WT := wtm 572 (by decide +kernel)
theorem wt_X1_47 : Cond.methodLink RX1 47 Lib.Math.min.name ∈ WT := wtm 678 (by decide +kernel)
theorem wt_X1_52 : Cond.methodLink RX1 52 arraycopyName ∈ WT := wtm 823 (by decide +kernel)
theorem wt_X1_9 : Cond.fieldLink RX1 9 RX1 "stores" "[I" ∈ WT := wtm 99 (by decide +kernel)
theorem wt_X2_15 : Cond.methodLink RX2 15 Lib.Math.max.name ∈ WT := wtm 633 (by decide +kernel)
theorem wt_X2_22 : Cond.methodLink RX2 22 yX2_bounded ∈ WT := wtm 637 (by decide +kernel)
theorem wt_X2_9 : Cond.methodLink RX2 9 Lib.Math.min.name ∈ WT := wtm 630 (by decide +kernel)
theorem wt_X3_11 : Cond.fieldLink RX3 11 RX3 "stores" "[[I" ∈ WT := wtm 465 (by decide +kernel)
theorem wt_X3_16 : Cond.fieldLink RX3 16 RX3 "barred" "I" ∈ WT := wtm 466 (by decide +kernel)
theorem wt_X3_20 : Cond.fieldLink RX3 20 RX3 "best" "I" ∈ WT := wtm 467 (by decide +kernel)
theorem wt_X3_23 : Cond.fieldLink RX3 23 RX3 "bestWorth" "I" ∈ WT := wtm 469 (by decide +kernel)
theorem wt_X3_26 : Cond.fieldLink RX3 26 RX3 "feast" "I" ∈ WT := wtm 471 (by decide +kernel)
theorem wt_X3_29 : Cond.fieldLink RX3 29 RX3 "feastFed" "I" ∈ WT := wtm 473 (by decide +kernel)
theorem wt_X3_32 : Cond.fieldLink RX3 32 RX3 "peace" "I" ∈ WT := wtm 475 (by decide +kernel)
theorem wt_X3_35 : Cond.fieldLink RX3 35 RX3 "peaceToll" "I" ∈ WT := wtm 477 (by decide +kernel)
theorem wt_X3_38 : Cond.fieldLink RX3 38 RX3 "peaceCount" "I" ∈ WT := wtm 479 (by decide +kernel)
theorem wt_X3_41 : Cond.fieldLink RX3 41 RX3 "house" "LMenuIsATreaty$House;" ∈ WT := wtm 463 (by decide +kernel)
theorem wt_X3_45 : Cond.fieldLink RX3 45 RX3 "cooking" "LMenuIsATreaty$Cooking;" ∈ WT := wtm 464 (by decide +kernel)
theorem wt_X3_49 : Cond.fieldLink RX3 49 RX1 "stores" "[I" ∈ WT := wtm 101 (by decide +kernel)
theorem wt_X3_54 : Cond.methodLink RX3 54 arraycopyName ∈ WT := wtm 728 (by decide +kernel)
theorem wt_X3_60 : Cond.methodLink RX3 60 Lib.Math.min.name ∈ WT := wtm 729 (by decide +kernel)
theorem wt_X3_66 : Cond.methodLink RX3 66 yX3_goThrough ∈ WT := wtm 730 (by decide +kernel)
theorem wt_X3_70 : Cond.fieldLink RX3 70 RX1 "dishCount" "I" ∈ WT := wtm 117 (by decide +kernel)
theorem wt_X3_73 : Cond.methodLink RX3 73 yX3_weigh ∈ WT := wtm 734 (by decide +kernel)
theorem wt_X3_77 : Cond.methodLink RX3 77 yX0_takeUp ∈ WT := wtm 738 (by decide +kernel)
theorem wt_X3_83 : Cond.methodLink RX3 83 yX0_isCooked ∈ WT := wtm 739 (by decide +kernel)
theorem wt_X3_87 : Cond.methodLink RX3 87 yX0_useUp ∈ WT := wtm 740 (by decide +kernel)
theorem wt_X3_91 : Cond.fieldLink RX3 91 RX0 "fed" "I" ∈ WT := wtm 385 (by decide +kernel)
theorem wt_X3_94 : Cond.fieldLink RX3 94 RX0 "toll" "I" ∈ WT := wtm 381 (by decide +kernel)
theorem wt_X4_15 : Cond.fieldLink RX4 15 RX4 "fed" "I" ∈ WT := wtm 432 (by decide +kernel)
theorem wt_X4_19 : Cond.fieldLink RX4 19 RX4 "fedAtFirst" "I" ∈ WT := wtm 434 (by decide +kernel)
theorem wt_X4_22 : Cond.fieldLink RX4 22 RX4 "toll" "I" ∈ WT := wtm 436 (by decide +kernel)
theorem wt_X4_25 : Cond.fieldLink RX4 25 RX4 "failed" "I" ∈ WT := wtm 438 (by decide +kernel)
theorem wt_X4_28 : Cond.fieldLink RX4 28 RX4 "house" "LMenuIsATreaty$House;" ∈ WT := wtm 428 (by decide +kernel)
theorem wt_X4_32 : Cond.fieldLink RX4 32 RX4 "cooking" "LMenuIsATreaty$Cooking;" ∈ WT := wtm 429 (by decide +kernel)
theorem wt_X4_36 : Cond.fieldLink RX4 36 RX1 "stores" "[I" ∈ WT := wtm 100 (by decide +kernel)
theorem wt_X4_39 : Cond.methodLink RX4 39 arraycopyName ∈ WT := wtm 696 (by decide +kernel)
theorem wt_X4_45 : Cond.methodLink RX4 45 yX0_takeUp ∈ WT := wtm 707 (by decide +kernel)
theorem wt_X4_51 : Cond.methodLink RX4 51 yX0_isCooked ∈ WT := wtm 708 (by decide +kernel)
theorem wt_X4_55 : Cond.methodLink RX4 55 yX0_useUp ∈ WT := wtm 709 (by decide +kernel)
theorem wt_X4_59 : Cond.fieldLink RX4 59 RX0 "fed" "I" ∈ WT := wtm 384 (by decide +kernel)
theorem wt_X4_60 : Cond.fieldLink RX4 60 RX0 "toll" "I" ∈ WT := wtm 380 (by decide +kernel)
theorem wt_X4_61 : Cond.methodLink RX4 61 yX4_begin ∈ WT := wtm 692 (by decide +kernel)
theorem wt_X4_64 : Cond.fieldLink RX4 64 RX1 "dishCount" "I" ∈ WT := wtm 118 (by decide +kernel)
theorem wt_X4_67 : Cond.methodLink RX4 67 yX1_kitchenBy ∈ WT := wtm 699 (by decide +kernel)
theorem wt_X4_71 : Cond.methodLink RX4 71 yX4_goOn ∈ WT := wtm 703 (by decide +kernel)
theorem wt_X4_75 : Cond.constant RX4 75 (1103515245) ∈ WT := wtm 810 (by decide +kernel)
theorem wt_X4_9 : Cond.fieldLink RX4 9 RX4 "stores" "[I" ∈ WT := wtm 430 (by decide +kernel)
theorem wt_X5_122 : Cond.methodLink RX5 122 yJ0_length_8abf5 ∈ WT := wtm 290 (by decide +kernel)
theorem wt_X5_128 : Cond.methodLink RX5 128 yJ0_charAt_5068e ∈ WT := wtm 291 (by decide +kernel)
theorem wt_X5_15 : Cond.fieldLink RX5 15 RX5 "size" "I" ∈ WT := wtm 155 (by decide +kernel)
theorem wt_X5_19 : Cond.fieldLink RX5 19 RX5 "at" "I" ∈ WT := wtm 157 (by decide +kernel)
theorem wt_X5_22 : Cond.fieldLink RX5 22 RX5 "token" "I" ∈ WT := wtm 158 (by decide +kernel)
theorem wt_X5_25 : Cond.fieldLink RX5 25 RX5 "place" "I" ∈ WT := wtm 159 (by decide +kernel)
theorem wt_X5_28 : Cond.fieldLink RX5 28 RX5 "code" "I" ∈ WT := wtm 160 (by decide +kernel)
theorem wt_X5_31 : Cond.fieldLink RX5 31 RX5 "fault" "I" ∈ WT := wtm 161 (by decide +kernel)
theorem wt_X5_34 : Cond.methodLink RX5 34 yX7_clear ∈ WT := wtm 270 (by decide +kernel)
theorem wt_X5_39 : Cond.methodLink RX5 39 yX5_advance ∈ WT := wtm 274 (by decide +kernel)
theorem wt_X5_42 : Cond.methodLink RX5 42 yX5_expect ∈ WT := wtm 316 (by decide +kernel)
theorem wt_X5_46 : Cond.methodLink RX5 46 yX5_readEither ∈ WT := wtm 324 (by decide +kernel)
theorem wt_X5_50 : Cond.methodLink RX5 50 yX7_endSection ∈ WT := wtm 352 (by decide +kernel)
theorem wt_X5_53 : Cond.methodLink RX5 53 yX5_fail ∈ WT := wtm 320 (by decide +kernel)
theorem wt_X5_56 : Cond.methodLink RX5 56 yX5_readBoth ∈ WT := wtm 328 (by decide +kernel)
theorem wt_X5_59 : Cond.methodLink RX5 59 yX7_append ∈ WT := wtm 336 (by decide +kernel)
theorem wt_X5_62 : Cond.methodLink RX5 62 yX5_readNot ∈ WT := wtm 332 (by decide +kernel)
theorem wt_X5_65 : Cond.methodLink RX5 65 yX5_readSum ∈ WT := wtm 340 (by decide +kernel)
theorem wt_X5_68 : Cond.methodLink RX5 68 yX5_readTerm ∈ WT := wtm 344 (by decide +kernel)
theorem wt_X5_71 : Cond.methodLink RX5 71 yX5_readOne ∈ WT := wtm 348 (by decide +kernel)
theorem wt_X5_74 : Cond.methodLink RX5 74 yX5_isLetter ∈ WT := wtm 278 (by decide +kernel)
theorem wt_X5_78 : Cond.methodLink RX5 78 yX5_advanceWord ∈ WT := wtm 281 (by decide +kernel)
theorem wt_X5_81 : Cond.methodLink RX5 81 yX5_isDigit ∈ WT := wtm 306 (by decide +kernel)
theorem wt_X5_84 : Cond.methodLink RX5 84 yX5_advanceNumber ∈ WT := wtm 309 (by decide +kernel)
theorem wt_X5_87 : Cond.methodLink RX5 87 yX5_isSign ∈ WT := wtm 313 (by decide +kernel)
theorem wt_X5_9 : Cond.fieldLink RX5 9 RX5 "tape" "[I" ∈ WT := wtm 154 (by decide +kernel)
theorem wt_X5_92 : Cond.methodLink RX5 92 yX5_isWord ∈ WT := wtm 286 (by decide +kernel)
theorem wt_X5_96 : Cond.methodLink RX5 96 yX7_nameCode ∈ WT := wtm 292 (by decide +kernel)
theorem wt_X6_11 : Cond.fieldLink RX6 11 RX6 "sort" "I" ∈ WT := wtm 199 (by decide +kernel)
theorem wt_X6_15 : Cond.fieldLink RX6 15 RX6 "size" "I" ∈ WT := wtm 201 (by decide +kernel)
theorem wt_X6_18 : Cond.fieldLink RX6 18 RX6 "items" "[I" ∈ WT := wtm 203 (by decide +kernel)
theorem wt_X6_22 : Cond.methodLink RX6 22 yX6_hasItem ∈ WT := wtm 798 (by decide +kernel)
theorem wt_X7_15 : Cond.fieldLink RX7 15 RX7 "ends" "[I" ∈ WT := wtm 185 (by decide +kernel)
theorem wt_X7_18 : Cond.fieldLink RX7 18 RX7 "size" "I" ∈ WT := wtm 186 (by decide +kernel)
theorem wt_X7_22 : Cond.methodLink RX7 22 yX7_joined ∈ WT := wtm 624 (by decide +kernel)
theorem wt_X7_9 : Cond.fieldLink RX7 9 RX7 "codes" "[I" ∈ WT := wtm 184 (by decide +kernel)
theorem wt_X8_10 : Cond.fieldLink RX8 10 RX8 "house" "LMenuIsATreaty$House;" ∈ WT := wtm 504 (by decide +kernel)
theorem wt_X8_101 : Cond.fieldLink RX8 101 RX1 "hour" "I" ∈ WT := wtm 122 (by decide +kernel)
theorem wt_X8_104 : Cond.fieldLink RX8 104 RX1 "stores" "[I" ∈ WT := wtm 102 (by decide +kernel)
theorem wt_X8_108 : Cond.methodLink RX8 108 yX8_placeOf ∈ WT := wtm 546 (by decide +kernel)
theorem wt_X8_111 : Cond.fieldLink RX8 111 RX1 "prides" "[I" ∈ WT := wtm 105 (by decide +kernel)
theorem wt_X8_114 : Cond.fieldLink RX8 114 RX1 "numbers" "[I" ∈ WT := wtm 111 (by decide +kernel)
theorem wt_X8_117 : Cond.fieldLink RX8 117 RX1 "needs" "[I" ∈ WT := wtm 113 (by decide +kernel)
theorem wt_X8_120 : Cond.constant RX8 120 (999999) ∈ WT := wtm 581 (by decide +kernel)
theorem wt_X8_121 : Cond.methodLink RX8 121 yX1_addDish ∈ WT := wtm 586 (by decide +kernel)
theorem wt_X8_125 : Cond.methodLink RX8 125 yX8_isPlace ∈ WT := wtm 543 (by decide +kernel)
theorem wt_X8_128 : Cond.methodLink RX8 128 yX8_isKitchen ∈ WT := wtm 549 (by decide +kernel)
theorem wt_X8_131 : Cond.methodLink RX8 131 yX8_toldOfKitchen ∈ WT := wtm 552 (by decide +kernel)
theorem wt_X8_134 : Cond.methodLink RX8 134 yX1_hasDish ∈ WT := wtm 560 (by decide +kernel)
theorem wt_X8_137 : Cond.methodLink RX8 137 yX8_toldOfDish ∈ WT := wtm 564 (by decide +kernel)
theorem wt_X8_140 : Cond.methodLink RX8 140 yX0_takeUp ∈ WT := wtm 595 (by decide +kernel)
theorem wt_X8_144 : Cond.methodLink RX8 144 yX0_cross ∈ WT := wtm 605 (by decide +kernel)
theorem wt_X8_148 : Cond.methodLink RX8 148 yX0_judge ∈ WT := wtm 612 (by decide +kernel)
theorem wt_X8_152 : Cond.fieldLink RX8 152 RX0 "canBe" "Z" ∈ WT := wtm 376 (by decide +kernel)
theorem wt_X8_155 : Cond.fieldLink RX8 155 RX0 "crosses" "I" ∈ WT := wtm 378 (by decide +kernel)
theorem wt_X8_158 : Cond.fieldLink RX8 158 RX0 "toll" "I" ∈ WT := wtm 382 (by decide +kernel)
theorem wt_X8_16 : Cond.fieldLink RX8 16 RX8 "imaged" "LMenuIsATreaty$House;" ∈ WT := wtm 505 (by decide +kernel)
theorem wt_X8_161 : Cond.fieldLink RX8 161 RX0 "signed" "[Z" ∈ WT := wtm 374 (by decide +kernel)
theorem wt_X8_165 : Cond.fieldLink RX8 165 RX0 "fed" "I" ∈ WT := wtm 386 (by decide +kernel)
theorem wt_X8_168 : Cond.methodLink RX8 168 yX0_worth ∈ WT := wtm 644 (by decide +kernel)
theorem wt_X8_171 : Cond.fieldLink RX8 171 RX5 "size" "I" ∈ WT := wtm 156 (by decide +kernel)
theorem wt_X8_174 : Cond.fieldLink RX8 174 RX1 "rule" "I" ∈ WT := wtm 125 (by decide +kernel)
theorem wt_X8_177 : Cond.methodLink RX8 177 yX0_isCooked ∈ WT := wtm 664 (by decide +kernel)
theorem wt_X8_181 : Cond.methodLink RX8 181 yX0_useUp ∈ WT := wtm 670 (by decide +kernel)
theorem wt_X8_184 : Cond.methodLink RX8 184 yX1_countCooked ∈ WT := wtm 674 (by decide +kernel)
theorem wt_X8_187 : Cond.methodLink RX8 187 yX8_isMenu ∈ WT := wtm 683 (by decide +kernel)
theorem wt_X8_19 : Cond.fieldLink RX8 19 RX8 "hasImage" "Z" ∈ WT := wtm 506 (by decide +kernel)
theorem wt_X8_190 : Cond.methodLink RX8 190 yX4_play ∈ WT := wtm 688 (by decide +kernel)
theorem wt_X8_193 : Cond.fieldLink RX8 193 RX4 "failed" "I" ∈ WT := wtm 439 (by decide +kernel)
theorem wt_X8_196 : Cond.fieldLink RX8 196 RX4 "fed" "I" ∈ WT := wtm 433 (by decide +kernel)
theorem wt_X8_197 : Cond.fieldLink RX8 197 RX4 "toll" "I" ∈ WT := wtm 437 (by decide +kernel)
theorem wt_X8_198 : Cond.constant RX8 198 (-100000) ∈ WT := wtm 710 (by decide +kernel)
theorem wt_X8_199 : Cond.constant RX8 199 (-100001) ∈ WT := wtm 715 (by decide +kernel)
theorem wt_X8_200 : Cond.constant RX8 200 (-100002) ∈ WT := wtm 716 (by decide +kernel)
theorem wt_X8_201 : Cond.constant RX8 201 (-100003) ∈ WT := wtm 717 (by decide +kernel)
theorem wt_X8_202 : Cond.fieldLink RX8 202 RX4 "stores" "[I" ∈ WT := wtm 431 (by decide +kernel)
theorem wt_X8_203 : Cond.methodLink RX8 203 arraycopyName ∈ WT := wtm 718 (by decide +kernel)
theorem wt_X8_209 : Cond.fieldLink RX8 209 RX1 "dishCount" "I" ∈ WT := wtm 119 (by decide +kernel)
theorem wt_X8_212 : Cond.methodLink RX8 212 yX1_kitchenBy ∈ WT := wtm 719 (by decide +kernel)
theorem wt_X8_215 : Cond.methodLink RX8 215 yX3_seek ∈ WT := wtm 724 (by decide +kernel)
theorem wt_X8_219 : Cond.fieldLink RX8 219 RX3 "best" "I" ∈ WT := wtm 468 (by decide +kernel)
theorem wt_X8_222 : Cond.fieldLink RX8 222 RX3 "bestWorth" "I" ∈ WT := wtm 470 (by decide +kernel)
theorem wt_X8_225 : Cond.fieldLink RX8 225 RX3 "feast" "I" ∈ WT := wtm 472 (by decide +kernel)
theorem wt_X8_228 : Cond.fieldLink RX8 228 RX3 "feastFed" "I" ∈ WT := wtm 474 (by decide +kernel)
theorem wt_X8_231 : Cond.fieldLink RX8 231 RX3 "peace" "I" ∈ WT := wtm 476 (by decide +kernel)
theorem wt_X8_234 : Cond.fieldLink RX8 234 RX3 "peaceToll" "I" ∈ WT := wtm 478 (by decide +kernel)
theorem wt_X8_237 : Cond.fieldLink RX8 237 RX3 "peaceCount" "I" ∈ WT := wtm 480 (by decide +kernel)
theorem wt_X8_240 : Cond.methodLink RX8 240 yX8_sideOf ∈ WT := wtm 741 (by decide +kernel)
theorem wt_X8_243 : Cond.constantLong RX8 243 (-4611686018427387904) ∈ WT := wtm 757 (by decide +kernel)
theorem wt_X8_245 : Cond.fieldLink RX8 245 RX4 "fedAtFirst" "I" ∈ WT := wtm 435 (by decide +kernel)
theorem wt_X8_248 : Cond.methodLink RX8 248 yX8_lowestTerms ∈ WT := wtm 758 (by decide +kernel)
theorem wt_X8_25 : Cond.fieldLink RX8 25 RX8 "texts" "[LMenuIsATreaty$Text;" ∈ WT := wtm 507 (by decide +kernel)
theorem wt_X8_252 : Cond.methodLink RX8 252 yX8_isSheet ∈ WT := wtm 765 (by decide +kernel)
theorem wt_X8_255 : Cond.methodLink RX8 255 yX6_isMissing ∈ WT := wtm 768 (by decide +kernel)
theorem wt_X8_259 : Cond.fieldLink RX8 259 RX6 "size" "I" ∈ WT := wtm 202 (by decide +kernel)
theorem wt_X8_260 : Cond.methodLink RX8 260 yX8_guess ∈ WT := wtm 772 (by decide +kernel)
theorem wt_X8_264 : Cond.methodLink RX8 264 yX0_firstOtherwise ∈ WT := wtm 780 (by decide +kernel)
theorem wt_X8_268 : Cond.methodLink RX8 268 yX6_become ∈ WT := wtm 790 (by decide +kernel)
theorem wt_X8_271 : Cond.methodLink RX8 271 yX6_put ∈ WT := wtm 794 (by decide +kernel)
theorem wt_X8_274 : Cond.methodLink RX8 274 yX4_draw ∈ WT := wtm 806 (by decide +kernel)
theorem wt_X8_277 : Cond.methodLink RX8 277 yX1_become ∈ WT := wtm 819 (by decide +kernel)
theorem wt_X8_280 : Cond.methodLink RX8 280 yX1_storeOf ∈ WT := wtm 556 (by decide +kernel)
theorem wt_X8_283 : Cond.methodLink RX8 283 yX6_hasItem ∈ WT := wtm 840 (by decide +kernel)
theorem wt_X8_286 : Cond.fieldLink RX8 286 RX6 "sort" "I" ∈ WT := wtm 200 (by decide +kernel)
theorem wt_X8_289 : Cond.methodLink RX8 289 yX6_hasRun ∈ WT := wtm 845 (by decide +kernel)
theorem wt_X8_29 : Cond.fieldLink RX8 29 RX8 "textCount" "I" ∈ WT := wtm 508 (by decide +kernel)
theorem wt_X8_293 : Cond.fieldLink RX8 293 RX6 "items" "[I" ∈ WT := wtm 205 (by decide +kernel)
theorem wt_X8_296 : Cond.methodLink RX8 296 yX8_dish ∈ WT := wtm 853 (by decide +kernel)
theorem wt_X8_299 : Cond.fieldLink RX8 299 RX1 "kinds" "[I" ∈ WT := wtm 108 (by decide +kernel)
theorem wt_X8_302 : Cond.methodLink RX8 302 yX2_isUnder ∈ WT := wtm 858 (by decide +kernel)
theorem wt_X8_307 : Cond.fieldLink RX8 307 RX1 "cooked" "[I" ∈ WT := wtm 115 (by decide +kernel)
theorem wt_X8_310 : Cond.methodLink RX8 310 yX1_needsTogether ∈ WT := wtm 568 (by decide +kernel)
theorem wt_X8_313 : Cond.fieldLink RX8 313 RX8 "POWERS" "[I" ∈ WT := wtm 687 (by decide +kernel)
theorem wt_X8_316 : Cond.methodLink RX8 316 yX0_suppose ∈ WT := wtm 776 (by decide +kernel)
theorem wt_X8_36 : Cond.fieldLink RX8 36 RX8 "reader" "LMenuIsATreaty$Reader;" ∈ WT := wtm 509 (by decide +kernel)
theorem wt_X8_42 : Cond.fieldLink RX8 42 RX8 "sheets" "[LMenuIsATreaty$Sheet;" ∈ WT := wtm 513 (by decide +kernel)
theorem wt_X8_60 : Cond.methodLink RX8 60 yX5_append ∈ WT := wtm 262 (by decide +kernel)
theorem wt_X8_64 : Cond.methodLink RX8 64 yX5_readInto ∈ WT := wtm 266 (by decide +kernel)
theorem wt_X8_73 : Cond.fieldLink RX8 73 RX8 "cooking" "LMenuIsATreaty$Cooking;" ∈ WT := wtm 510 (by decide +kernel)
theorem wt_X8_82 : Cond.fieldLink RX8 82 RX8 "plan" "LMenuIsATreaty$Plan;" ∈ WT := wtm 511 (by decide +kernel)
theorem wt_X8_89 : Cond.fieldLink RX8 89 RX8 "menus" "LMenuIsATreaty$Menus;" ∈ WT := wtm 512 (by decide +kernel)
theorem wt_X8_93 : Cond.methodLink RX8 93 yX8_told ∈ WT := wtm 539 (by decide +kernel)
theorem wt_X8_97 : Cond.methodLink RX8 97 yX8_mostOf ∈ WT := wtm 578 (by decide +kernel)
theorem wt_X9_100 : Cond.methodLink RX9 100 yX9_isOf ∈ WT := wtm 1028 (by decide +kernel)
theorem wt_X9_104 : Cond.methodLink RX9 104 yX9_mostOf ∈ WT := wtm 1044 (by decide +kernel)
theorem wt_X9_108 : Cond.methodLink RX9 108 yX9_told ∈ WT := wtm 1048 (by decide +kernel)
theorem wt_X9_112 : Cond.methodLink RX9 112 yX9_lays ∈ WT := wtm 1065 (by decide +kernel)
theorem wt_X9_116 : Cond.fieldLink RX9 116 RX9 "hourNow" "I" ∈ WT := wtm 879 (by decide +kernel)
theorem wt_X9_119 : Cond.fieldLink RX9 119 RX9 "rule" "I" ∈ WT := wtm 876 (by decide +kernel)
theorem wt_X9_122 : Cond.constantLong RX9 122 (9) ∈ WT := wtm 1073 (by decide +kernel)
theorem wt_X9_124 : Cond.constantLong RX9 124 (999999) ∈ WT := wtm 1074 (by decide +kernel)
theorem wt_X9_126 : Cond.constantLong RX9 126 (8) ∈ WT := wtm 1052 (by decide +kernel)
theorem wt_X9_128 : Cond.methodLink RX9 128 yX9_needsAll ∈ WT := wtm 1053 (by decide +kernel)
theorem wt_X9_13 : Cond.fieldLink RX9 13 RX9 "texts" "[I" ∈ WT := wtm 873 (by decide +kernel)
theorem wt_X9_131 : Cond.methodLink RX9 131 yX9_storeOf ∈ WT := wtm 1061 (by decide +kernel)
theorem wt_X9_134 : Cond.methodLink RX9 134 yX9_needsOf ∈ WT := wtm 1057 (by decide +kernel)
theorem wt_X9_137 : Cond.constantLong RX9 137 (255) ∈ WT := wtm 1080 (by decide +kernel)
theorem wt_X9_139 : Cond.fieldLink RX9 139 RX9 "taped" "I" ∈ WT := wtm 878 (by decide +kernel)
theorem wt_X9_142 : Cond.fieldLink RX9 142 RX9 "size" "I" ∈ WT := wtm 892 (by decide +kernel)
theorem wt_X9_145 : Cond.fieldLink RX9 145 RX9 "from" "I" ∈ WT := wtm 891 (by decide +kernel)
theorem wt_X9_148 : Cond.fieldLink RX9 148 RX9 "here" "I" ∈ WT := wtm 893 (by decide +kernel)
theorem wt_X9_151 : Cond.methodLink RX9 151 yX9_byteAt ∈ WT := wtm 1093 (by decide +kernel)
theorem wt_X9_154 : Cond.fieldLink RX9 154 RX9 "tokenAt" "I" ∈ WT := wtm 895 (by decide +kernel)
theorem wt_X9_157 : Cond.fieldLink RX9 157 RX9 "token" "I" ∈ WT := wtm 894 (by decide +kernel)
theorem wt_X9_160 : Cond.constantLong RX9 160 (97) ∈ WT := wtm 1097 (by decide +kernel)
theorem wt_X9_162 : Cond.constantLong RX9 162 (122) ∈ WT := wtm 1098 (by decide +kernel)
theorem wt_X9_164 : Cond.constantLong RX9 164 (48) ∈ WT := wtm 1099 (by decide +kernel)
theorem wt_X9_166 : Cond.constantLong RX9 166 (57) ∈ WT := wtm 1100 (by decide +kernel)
theorem wt_X9_168 : Cond.fieldLink RX9 168 RX9 "tokenWorth" "J" ∈ WT := wtm 896 (by decide +kernel)
theorem wt_X9_17 : Cond.fieldLink RX9 17 RX9 "textSize" "[I" ∈ WT := wtm 874 (by decide +kernel)
theorem wt_X9_172 : Cond.constantLong RX9 172 (10) ∈ WT := wtm 1101 (by decide +kernel)
theorem wt_X9_174 : Cond.fieldLink RX9 174 RX9 "bad" "Z" ∈ WT := wtm 898 (by decide +kernel)
theorem wt_X9_178 : Cond.fieldLink RX9 178 RX9 "fault" "I" ∈ WT := wtm 899 (by decide +kernel)
theorem wt_X9_181 : Cond.methodLink RX9 181 yX9_isLetter ∈ WT := wtm 1106 (by decide +kernel)
theorem wt_X9_184 : Cond.fieldLink RX9 184 RX9 "open" "I" ∈ WT := wtm 897 (by decide +kernel)
theorem wt_X9_187 : Cond.methodLink RX9 187 yX9_fail ∈ WT := wtm 1114 (by decide +kernel)
theorem wt_X9_190 : Cond.methodLink RX9 190 yX9_next ∈ WT := wtm 1089 (by decide +kernel)
theorem wt_X9_193 : Cond.methodLink RX9 193 yX9_isWord ∈ WT := wtm 1102 (by decide +kernel)
theorem wt_X9_197 : Cond.fieldLink RX9 197 RX9 "ofPart" "I" ∈ WT := wtm 885 (by decide +kernel)
theorem wt_X9_20 : Cond.fieldLink RX9 20 RX9 "tape" "[I" ∈ WT := wtm 877 (by decide +kernel)
theorem wt_X9_200 : Cond.fieldLink RX9 200 RX9 "ofMuch" "I" ∈ WT := wtm 886 (by decide +kernel)
theorem wt_X9_203 : Cond.fieldLink RX9 203 RX9 "ofKitchen" "I" ∈ WT := wtm 887 (by decide +kernel)
theorem wt_X9_206 : Cond.fieldLink RX9 206 RX9 "ofHour" "I" ∈ WT := wtm 888 (by decide +kernel)
theorem wt_X9_209 : Cond.fieldLink RX9 209 RX9 "ofNumber" "I" ∈ WT := wtm 889 (by decide +kernel)
theorem wt_X9_212 : Cond.fieldLink RX9 212 RX9 "ofPride" "I" ∈ WT := wtm 890 (by decide +kernel)
theorem wt_X9_215 : Cond.methodLink RX9 215 yX9_isSign ∈ WT := wtm 1146 (by decide +kernel)
theorem wt_X9_218 : Cond.methodLink RX9 218 yX9_opens ∈ WT := wtm 1130 (by decide +kernel)
theorem wt_X9_222 : Cond.methodLink RX9 222 yX9_atom ∈ WT := wtm 1142 (by decide +kernel)
theorem wt_X9_226 : Cond.methodLink RX9 226 yX9_either ∈ WT := wtm 1118 (by decide +kernel)
theorem wt_X9_229 : Cond.methodLink RX9 229 yX9_name ∈ WT := wtm 1150 (by decide +kernel)
theorem wt_X9_23 : Cond.fieldLink RX9 23 RX9 "store" "[I" ∈ WT := wtm 880 (by decide +kernel)
theorem wt_X9_232 : Cond.methodLink RX9 232 yX9_term ∈ WT := wtm 1138 (by decide +kernel)
theorem wt_X9_235 : Cond.constantLong RX9 235 (43) ∈ WT := wtm 1154 (by decide +kernel)
theorem wt_X9_237 : Cond.methodLink RX9 237 yX9_not ∈ WT := wtm 1126 (by decide +kernel)
theorem wt_X9_240 : Cond.methodLink RX9 240 yX9_added ∈ WT := wtm 1134 (by decide +kernel)
theorem wt_X9_243 : Cond.constantLong RX9 243 (60) ∈ WT := wtm 1155 (by decide +kernel)
theorem wt_X9_245 : Cond.methodLink RX9 245 yX9_both ∈ WT := wtm 1122 (by decide +kernel)
theorem wt_X9_248 : Cond.methodLink RX9 248 yX9_part ∈ WT := wtm 1110 (by decide +kernel)
theorem wt_X9_252 : Cond.methodLink RX9 252 yX9_read ∈ WT := wtm 1085 (by decide +kernel)
theorem wt_X9_255 : Cond.methodLink RX9 255 yX9_within ∈ WT := wtm 1181 (by decide +kernel)
theorem wt_X9_259 : Cond.methodLink RX9 259 yX9_says ∈ WT := wtm 1177 (by decide +kernel)
theorem wt_X9_26 : Cond.fieldLink RX9 26 RX9 "prides" "[I" ∈ WT := wtm 881 (by decide +kernel)
theorem wt_X9_263 : Cond.methodLink RX9 263 yX9_crossOf ∈ WT := wtm 1169 (by decide +kernel)
theorem wt_X9_266 : Cond.methodLink RX9 266 yX9_tollPart ∈ WT := wtm 1173 (by decide +kernel)
theorem wt_X9_270 : Cond.methodLink RX9 270 yX9_tollOf ∈ WT := wtm 1165 (by decide +kernel)
theorem wt_X9_273 : Cond.methodLink RX9 273 yX9_signsAt ∈ WT := wtm 1192 (by decide +kernel)
theorem wt_X9_277 : Cond.constantLong RX9 277 (6) ∈ WT := wtm 1164 (by decide +kernel)
theorem wt_X9_279 : Cond.methodLink RX9 279 yX9_canBe ∈ WT := wtm 1184 (by decide +kernel)
theorem wt_X9_282 : Cond.methodLink RX9 282 yX9_crossAll ∈ WT := wtm 1188 (by decide +kernel)
theorem wt_X9_285 : Cond.methodLink RX9 285 yX9_feedsOf ∈ WT := wtm 1196 (by decide +kernel)
theorem wt_X9_288 : Cond.methodLink RX9 288 yX9_isRatified ∈ WT := wtm 1204 (by decide +kernel)
theorem wt_X9_29 : Cond.fieldLink RX9 29 RX9 "kinds" "[I" ∈ WT := wtm 882 (by decide +kernel)
theorem wt_X9_291 : Cond.methodLink RX9 291 yX9_uses ∈ WT := wtm 1208 (by decide +kernel)
theorem wt_X9_295 : Cond.methodLink RX9 295 yX9_counts ∈ WT := wtm 1212 (by decide +kernel)
theorem wt_X9_299 : Cond.fieldLink RX9 299 RX9 "fed" "I" ∈ WT := wtm 902 (by decide +kernel)
theorem wt_X9_302 : Cond.fieldLink RX9 302 RX9 "tolled" "I" ∈ WT := wtm 903 (by decide +kernel)
theorem wt_X9_305 : Cond.methodLink RX9 305 yX9_isCooked ∈ WT := wtm 1232 (by decide +kernel)
theorem wt_X9_308 : Cond.methodLink RX9 308 yX9_isMenu ∈ WT := wtm 1220 (by decide +kernel)
theorem wt_X9_311 : Cond.methodLink RX9 311 yX9_laysAside ∈ WT := wtm 1224 (by decide +kernel)
theorem wt_X9_314 : Cond.methodLink RX9 314 yX9_cooksAll ∈ WT := wtm 1228 (by decide +kernel)
theorem wt_X9_317 : Cond.methodLink RX9 317 yX9_laysBack ∈ WT := wtm 1236 (by decide +kernel)
theorem wt_X9_32 : Cond.fieldLink RX9 32 RX9 "rows" "[I" ∈ WT := wtm 883 (by decide +kernel)
theorem wt_X9_320 : Cond.constant RX9 320 (-100000) ∈ WT := wtm 1240 (by decide +kernel)
theorem wt_X9_321 : Cond.constant RX9 321 (-100001) ∈ WT := wtm 1245 (by decide +kernel)
theorem wt_X9_322 : Cond.constant RX9 322 (-100002) ∈ WT := wtm 1246 (by decide +kernel)
theorem wt_X9_323 : Cond.constant RX9 323 (-100003) ∈ WT := wtm 1247 (by decide +kernel)
theorem wt_X9_324 : Cond.fieldLink RX9 324 RX9 "bestDigits" "I" ∈ WT := wtm 904 (by decide +kernel)
theorem wt_X9_327 : Cond.fieldLink RX9 327 RX9 "bestValue" "I" ∈ WT := wtm 905 (by decide +kernel)
theorem wt_X9_330 : Cond.fieldLink RX9 330 RX9 "bestFed" "I" ∈ WT := wtm 906 (by decide +kernel)
theorem wt_X9_333 : Cond.fieldLink RX9 333 RX9 "bestFed0" "I" ∈ WT := wtm 907 (by decide +kernel)
theorem wt_X9_336 : Cond.fieldLink RX9 336 RX9 "bestSide" "I" ∈ WT := wtm 908 (by decide +kernel)
theorem wt_X9_339 : Cond.methodLink RX9 339 yX9_menus ∈ WT := wtm 1257 (by decide +kernel)
theorem wt_X9_343 : Cond.fieldLink RX9 343 RX9 "without" "I" ∈ WT := wtm 909 (by decide +kernel)
theorem wt_X9_346 : Cond.constantLong RX9 346 (7) ∈ WT := wtm 1252 (by decide +kernel)
theorem wt_X9_348 : Cond.methodLink RX9 348 yX9_bestOf ∈ WT := wtm 1253 (by decide +kernel)
theorem wt_X9_35 : Cond.fieldLink RX9 35 RX9 "storeWas" "[I" ∈ WT := wtm 900 (by decide +kernel)
theorem wt_X9_351 : Cond.methodLink RX9 351 yX9_dishesOf ∈ WT := wtm 1261 (by decide +kernel)
theorem wt_X9_354 : Cond.constantLong RX9 354 (-4611686018427387904) ∈ WT := wtm 1276 (by decide +kernel)
theorem wt_X9_356 : Cond.methodLink RX9 356 yX9_lowest ∈ WT := wtm 1277 (by decide +kernel)
theorem wt_X9_360 : Cond.methodLink RX9 360 yX9_worthIn ∈ WT := wtm 1292 (by decide +kernel)
theorem wt_X9_363 : Cond.methodLink RX9 363 yX9_firstOther ∈ WT := wtm 1288 (by decide +kernel)
theorem wt_X9_366 : Cond.methodLink RX9 366 yX9_isSheet ∈ WT := wtm 1284 (by decide +kernel)
theorem wt_X9_369 : Cond.methodLink RX9 369 yX9_likeSet ∈ WT := wtm 1296 (by decide +kernel)
theorem wt_X9_372 : Cond.methodLink RX9 372 yX9_sheet ∈ WT := wtm 1304 (by decide +kernel)
theorem wt_X9_375 : Cond.constant RX9 375 (1103515245) ∈ WT := wtm 1318 (by decide +kernel)
theorem wt_X9_376 : Cond.methodLink RX9 376 yX9_worthDrawn ∈ WT := wtm 1314 (by decide +kernel)
theorem wt_X9_379 : Cond.constantLong RX9 379 (20) ∈ WT := wtm 1323 (by decide +kernel)
theorem wt_X9_38 : Cond.fieldLink RX9 38 RX9 "chosen" "[I" ∈ WT := wtm 901 (by decide +kernel)
theorem wt_X9_381 : Cond.constantLong RX9 381 (-9999) ∈ WT := wtm 1324 (by decide +kernel)
theorem wt_X9_383 : Cond.constantLong RX9 383 (9999) ∈ WT := wtm 1325 (by decide +kernel)
theorem wt_X9_385 : Cond.fieldLink RX9 385 RX9 "hourKept" "I" ∈ WT := wtm 915 (by decide +kernel)
theorem wt_X9_388 : Cond.fieldLink RX9 388 RX9 "ruleKept" "I" ∈ WT := wtm 916 (by decide +kernel)
theorem wt_X9_391 : Cond.constantLong RX9 391 (3) ∈ WT := wtm 1287 (by decide +kernel)
theorem wt_X9_393 : Cond.constantLong RX9 393 (-1) ∈ WT := wtm 1308 (by decide +kernel)
theorem wt_X9_395 : Cond.constantLong RX9 395 (2) ∈ WT := wtm 1309 (by decide +kernel)
theorem wt_X9_397 : Cond.methodLink RX9 397 yX9_dish ∈ WT := wtm 1351 (by decide +kernel)
theorem wt_X9_400 : Cond.methodLink RX9 400 yX9_over ∈ WT := wtm 1356 (by decide +kernel)
theorem wt_X9_41 : Cond.fieldLink RX9 41 RX9 "asides" "[I" ∈ WT := wtm 910 (by decide +kernel)
theorem wt_X9_44 : Cond.fieldLink RX9 44 RX9 "storeKept" "[I" ∈ WT := wtm 911 (by decide +kernel)
theorem wt_X9_47 : Cond.fieldLink RX9 47 RX9 "pridesKept" "[I" ∈ WT := wtm 912 (by decide +kernel)
theorem wt_X9_50 : Cond.fieldLink RX9 50 RX9 "rowsKept" "[I" ∈ WT := wtm 913 (by decide +kernel)
theorem wt_X9_53 : Cond.fieldLink RX9 53 RX9 "manyKept" "I" ∈ WT := wtm 914 (by decide +kernel)
theorem wt_X9_56 : Cond.fieldLink RX9 56 RX9 "isThere" "[Z" ∈ WT := wtm 917 (by decide +kernel)
theorem wt_X9_60 : Cond.fieldLink RX9 60 RX9 "sorts" "[I" ∈ WT := wtm 918 (by decide +kernel)
theorem wt_X9_63 : Cond.fieldLink RX9 63 RX9 "sheetSize" "[I" ∈ WT := wtm 919 (by decide +kernel)
theorem wt_X9_66 : Cond.fieldLink RX9 66 RX9 "items" "[I" ∈ WT := wtm 920 (by decide +kernel)
theorem wt_X9_73 : Cond.fieldLink RX9 73 RX9 "textCount" "I" ∈ WT := wtm 875 (by decide +kernel)
theorem wt_X9_76 : Cond.fieldLink RX9 76 RX9 "many" "I" ∈ WT := wtm 884 (by decide +kernel)
theorem wt_X9_79 : Cond.methodLink RX9 79 yX9_in ∈ WT := wtm 1025 (by decide +kernel)
theorem wt_X9_83 : Cond.constantLong RX9 83 (5) ∈ WT := wtm 1036 (by decide +kernel)
theorem wt_X9_85 : Cond.constantLong RX9 85 (15) ∈ WT := wtm 1032 (by decide +kernel)
theorem wt_X9_87 : Cond.methodLink RX9 87 yX9_isPart ∈ WT := wtm 1033 (by decide +kernel)
theorem wt_X9_91 : Cond.methodLink RX9 91 yX9_isKitchen ∈ WT := wtm 1037 (by decide +kernel)
theorem wt_X9_94 : Cond.methodLink RX9 94 yX9_isDish ∈ WT := wtm 1040 (by decide +kernel)
theorem wt_X9_97 : Cond.constant RX9 97 (999999) ∈ WT := wtm 1047 (by decide +kernel)
theorem wt_X9_98 : Cond.constantLong RX9 98 (4) ∈ WT := wtm 1024 (by decide +kernel)
theorem iwX0 : ∀ w ∈ u_ws RX0 TX0 16, w ∈ WT := by
  intro w hw
  obtain ⟨k, hk, rfl⟩ := List.mem_map.mp hw
  have hk := List.mem_range.mp hk
  exact (show ∀ k, k < 16 → u_lay RX0 TX0 k ∈ WT from fun k hk => by
    rcases Nat.lt_or_ge k 1 with h0 | h0
    · have e : k = 0 := by omega
      subst e
      exact wtm 387 (by decide +kernel)
    rcases Nat.lt_or_ge k 2 with h1 | h1
    · have e : k = 1 := by omega
      subst e
      exact wtm 389 (by decide +kernel)
    rcases Nat.lt_or_ge k 3 with h2 | h2
    · have e : k = 2 := by omega
      subst e
      exact wtm 391 (by decide +kernel)
    rcases Nat.lt_or_ge k 4 with h3 | h3
    · have e : k = 3 := by omega
      subst e
      exact wtm 393 (by decide +kernel)
    rcases Nat.lt_or_ge k 5 with h4 | h4
    · have e : k = 4 := by omega
      subst e
      exact wtm 395 (by decide +kernel)
    rcases Nat.lt_or_ge k 6 with h5 | h5
    · have e : k = 5 := by omega
      subst e
      exact wtm 397 (by decide +kernel)
    rcases Nat.lt_or_ge k 7 with h6 | h6
    · have e : k = 6 := by omega
      subst e
      exact wtm 399 (by decide +kernel)
    rcases Nat.lt_or_ge k 8 with h7 | h7
    · have e : k = 7 := by omega
      subst e
      exact wtm 401 (by decide +kernel)
    rcases Nat.lt_or_ge k 9 with h8 | h8
    · have e : k = 8 := by omega
      subst e
      exact wtm 403 (by decide +kernel)
    rcases Nat.lt_or_ge k 10 with h9 | h9
    · have e : k = 9 := by omega
      subst e
      exact wtm 405 (by decide +kernel)
    rcases Nat.lt_or_ge k 11 with h10 | h10
    · have e : k = 10 := by omega
      subst e
      exact wtm 407 (by decide +kernel)
    rcases Nat.lt_or_ge k 12 with h11 | h11
    · have e : k = 11 := by omega
      subst e
      exact wtm 409 (by decide +kernel)
    rcases Nat.lt_or_ge k 13 with h12 | h12
    · have e : k = 12 := by omega
      subst e
      exact wtm 411 (by decide +kernel)
    rcases Nat.lt_or_ge k 14 with h13 | h13
    · have e : k = 13 := by omega
      subst e
      exact wtm 413 (by decide +kernel)
    rcases Nat.lt_or_ge k 15 with h14 | h14
    · have e : k = 14 := by omega
      subst e
      exact wtm 415 (by decide +kernel)
    rcases Nat.lt_or_ge k 16 with h15 | h15
    · have e : k = 15 := by omega
      subst e
      exact wtm 417 (by decide +kernel)
    omega) k hk
theorem iwX1 : ∀ w ∈ u_ws RX1 TX1 9, w ∈ WT := by
  intro w hw
  obtain ⟨k, hk, rfl⟩ := List.mem_map.mp hw
  have hk := List.mem_range.mp hk
  exact (show ∀ k, k < 9 → u_lay RX1 TX1 k ∈ WT from fun k hk => by
    rcases Nat.lt_or_ge k 1 with h0 | h0
    · have e : k = 0 := by omega
      subst e
      exact wtm 126 (by decide +kernel)
    rcases Nat.lt_or_ge k 2 with h1 | h1
    · have e : k = 1 := by omega
      subst e
      exact wtm 128 (by decide +kernel)
    rcases Nat.lt_or_ge k 3 with h2 | h2
    · have e : k = 2 := by omega
      subst e
      exact wtm 130 (by decide +kernel)
    rcases Nat.lt_or_ge k 4 with h3 | h3
    · have e : k = 3 := by omega
      subst e
      exact wtm 132 (by decide +kernel)
    rcases Nat.lt_or_ge k 5 with h4 | h4
    · have e : k = 4 := by omega
      subst e
      exact wtm 134 (by decide +kernel)
    rcases Nat.lt_or_ge k 6 with h5 | h5
    · have e : k = 5 := by omega
      subst e
      exact wtm 136 (by decide +kernel)
    rcases Nat.lt_or_ge k 7 with h6 | h6
    · have e : k = 6 := by omega
      subst e
      exact wtm 138 (by decide +kernel)
    rcases Nat.lt_or_ge k 8 with h7 | h7
    · have e : k = 7 := by omega
      subst e
      exact wtm 140 (by decide +kernel)
    rcases Nat.lt_or_ge k 9 with h8 | h8
    · have e : k = 8 := by omega
      subst e
      exact wtm 142 (by decide +kernel)
    omega) k hk
theorem iwX3 : ∀ w ∈ u_ws RX3 TX3 11, w ∈ WT := by
  intro w hw
  obtain ⟨k, hk, rfl⟩ := List.mem_map.mp hw
  have hk := List.mem_range.mp hk
  exact (show ∀ k, k < 11 → u_lay RX3 TX3 k ∈ WT from fun k hk => by
    rcases Nat.lt_or_ge k 1 with h0 | h0
    · have e : k = 0 := by omega
      subst e
      exact wtm 481 (by decide +kernel)
    rcases Nat.lt_or_ge k 2 with h1 | h1
    · have e : k = 1 := by omega
      subst e
      exact wtm 483 (by decide +kernel)
    rcases Nat.lt_or_ge k 3 with h2 | h2
    · have e : k = 2 := by omega
      subst e
      exact wtm 485 (by decide +kernel)
    rcases Nat.lt_or_ge k 4 with h3 | h3
    · have e : k = 3 := by omega
      subst e
      exact wtm 487 (by decide +kernel)
    rcases Nat.lt_or_ge k 5 with h4 | h4
    · have e : k = 4 := by omega
      subst e
      exact wtm 489 (by decide +kernel)
    rcases Nat.lt_or_ge k 6 with h5 | h5
    · have e : k = 5 := by omega
      subst e
      exact wtm 491 (by decide +kernel)
    rcases Nat.lt_or_ge k 7 with h6 | h6
    · have e : k = 6 := by omega
      subst e
      exact wtm 493 (by decide +kernel)
    rcases Nat.lt_or_ge k 8 with h7 | h7
    · have e : k = 7 := by omega
      subst e
      exact wtm 495 (by decide +kernel)
    rcases Nat.lt_or_ge k 9 with h8 | h8
    · have e : k = 8 := by omega
      subst e
      exact wtm 497 (by decide +kernel)
    rcases Nat.lt_or_ge k 10 with h9 | h9
    · have e : k = 9 := by omega
      subst e
      exact wtm 499 (by decide +kernel)
    rcases Nat.lt_or_ge k 11 with h10 | h10
    · have e : k = 10 := by omega
      subst e
      exact wtm 501 (by decide +kernel)
    omega) k hk
theorem iwX4 : ∀ w ∈ u_ws RX4 TX4 7, w ∈ WT := by
  intro w hw
  obtain ⟨k, hk, rfl⟩ := List.mem_map.mp hw
  have hk := List.mem_range.mp hk
  exact (show ∀ k, k < 7 → u_lay RX4 TX4 k ∈ WT from fun k hk => by
    rcases Nat.lt_or_ge k 1 with h0 | h0
    · have e : k = 0 := by omega
      subst e
      exact wtm 440 (by decide +kernel)
    rcases Nat.lt_or_ge k 2 with h1 | h1
    · have e : k = 1 := by omega
      subst e
      exact wtm 442 (by decide +kernel)
    rcases Nat.lt_or_ge k 3 with h2 | h2
    · have e : k = 2 := by omega
      subst e
      exact wtm 444 (by decide +kernel)
    rcases Nat.lt_or_ge k 4 with h3 | h3
    · have e : k = 3 := by omega
      subst e
      exact wtm 446 (by decide +kernel)
    rcases Nat.lt_or_ge k 5 with h4 | h4
    · have e : k = 4 := by omega
      subst e
      exact wtm 448 (by decide +kernel)
    rcases Nat.lt_or_ge k 6 with h5 | h5
    · have e : k = 5 := by omega
      subst e
      exact wtm 450 (by decide +kernel)
    rcases Nat.lt_or_ge k 7 with h6 | h6
    · have e : k = 6 := by omega
      subst e
      exact wtm 452 (by decide +kernel)
    omega) k hk
theorem iwX5 : ∀ w ∈ u_ws RX5 TX5 7, w ∈ WT := by
  intro w hw
  obtain ⟨k, hk, rfl⟩ := List.mem_map.mp hw
  have hk := List.mem_range.mp hk
  exact (show ∀ k, k < 7 → u_lay RX5 TX5 k ∈ WT from fun k hk => by
    rcases Nat.lt_or_ge k 1 with h0 | h0
    · have e : k = 0 := by omega
      subst e
      exact wtm 162 (by decide +kernel)
    rcases Nat.lt_or_ge k 2 with h1 | h1
    · have e : k = 1 := by omega
      subst e
      exact wtm 164 (by decide +kernel)
    rcases Nat.lt_or_ge k 3 with h2 | h2
    · have e : k = 2 := by omega
      subst e
      exact wtm 166 (by decide +kernel)
    rcases Nat.lt_or_ge k 4 with h3 | h3
    · have e : k = 3 := by omega
      subst e
      exact wtm 168 (by decide +kernel)
    rcases Nat.lt_or_ge k 5 with h4 | h4
    · have e : k = 4 := by omega
      subst e
      exact wtm 170 (by decide +kernel)
    rcases Nat.lt_or_ge k 6 with h5 | h5
    · have e : k = 5 := by omega
      subst e
      exact wtm 172 (by decide +kernel)
    rcases Nat.lt_or_ge k 7 with h6 | h6
    · have e : k = 6 := by omega
      subst e
      exact wtm 174 (by decide +kernel)
    omega) k hk
theorem iwX6 : ∀ w ∈ u_ws RX6 TX6 3, w ∈ WT := by
  intro w hw
  obtain ⟨k, hk, rfl⟩ := List.mem_map.mp hw
  have hk := List.mem_range.mp hk
  exact (show ∀ k, k < 3 → u_lay RX6 TX6 k ∈ WT from fun k hk => by
    rcases Nat.lt_or_ge k 1 with h0 | h0
    · have e : k = 0 := by omega
      subst e
      exact wtm 206 (by decide +kernel)
    rcases Nat.lt_or_ge k 2 with h1 | h1
    · have e : k = 1 := by omega
      subst e
      exact wtm 208 (by decide +kernel)
    rcases Nat.lt_or_ge k 3 with h2 | h2
    · have e : k = 2 := by omega
      subst e
      exact wtm 210 (by decide +kernel)
    omega) k hk
theorem iwX7 : ∀ w ∈ u_ws RX7 TX7 3, w ∈ WT := by
  intro w hw
  obtain ⟨k, hk, rfl⟩ := List.mem_map.mp hw
  have hk := List.mem_range.mp hk
  exact (show ∀ k, k < 3 → u_lay RX7 TX7 k ∈ WT from fun k hk => by
    rcases Nat.lt_or_ge k 1 with h0 | h0
    · have e : k = 0 := by omega
      subst e
      exact wtm 187 (by decide +kernel)
    rcases Nat.lt_or_ge k 2 with h1 | h1
    · have e : k = 1 := by omega
      subst e
      exact wtm 189 (by decide +kernel)
    rcases Nat.lt_or_ge k 3 with h2 | h2
    · have e : k = 2 := by omega
      subst e
      exact wtm 191 (by decide +kernel)
    omega) k hk
theorem iwX8 : ∀ w ∈ u_ws RX8 TX8 10, w ∈ WT := by
  intro w hw
  obtain ⟨k, hk, rfl⟩ := List.mem_map.mp hw
  have hk := List.mem_range.mp hk
  exact (show ∀ k, k < 10 → u_lay RX8 TX8 k ∈ WT from fun k hk => by
    rcases Nat.lt_or_ge k 1 with h0 | h0
    · have e : k = 0 := by omega
      subst e
      exact wtm 514 (by decide +kernel)
    rcases Nat.lt_or_ge k 2 with h1 | h1
    · have e : k = 1 := by omega
      subst e
      exact wtm 516 (by decide +kernel)
    rcases Nat.lt_or_ge k 3 with h2 | h2
    · have e : k = 2 := by omega
      subst e
      exact wtm 518 (by decide +kernel)
    rcases Nat.lt_or_ge k 4 with h3 | h3
    · have e : k = 3 := by omega
      subst e
      exact wtm 520 (by decide +kernel)
    rcases Nat.lt_or_ge k 5 with h4 | h4
    · have e : k = 4 := by omega
      subst e
      exact wtm 522 (by decide +kernel)
    rcases Nat.lt_or_ge k 6 with h5 | h5
    · have e : k = 5 := by omega
      subst e
      exact wtm 524 (by decide +kernel)
    rcases Nat.lt_or_ge k 7 with h6 | h6
    · have e : k = 6 := by omega
      subst e
      exact wtm 526 (by decide +kernel)
    rcases Nat.lt_or_ge k 8 with h7 | h7
    · have e : k = 7 := by omega
      subst e
      exact wtm 528 (by decide +kernel)
    rcases Nat.lt_or_ge k 9 with h8 | h8
    · have e : k = 8 := by omega
      subst e
      exact wtm 530 (by decide +kernel)
    rcases Nat.lt_or_ge k 10 with h9 | h9
    · have e : k = 9 := by omega
      subst e
      exact wtm 532 (by decide +kernel)
    omega) k hk
theorem iwX9 : ∀ w ∈ u_ws RX9 TX9 49, w ∈ WT := by
  intro w hw
  obtain ⟨k, hk, rfl⟩ := List.mem_map.mp hw
  have hk := List.mem_range.mp hk
  exact (show ∀ k, k < 49 → u_lay RX9 TX9 k ∈ WT from fun k hk => by
    rcases Nat.lt_or_ge k 1 with h0 | h0
    · have e : k = 0 := by omega
      subst e
      exact wtm 921 (by decide +kernel)
    rcases Nat.lt_or_ge k 2 with h1 | h1
    · have e : k = 1 := by omega
      subst e
      exact wtm 923 (by decide +kernel)
    rcases Nat.lt_or_ge k 3 with h2 | h2
    · have e : k = 2 := by omega
      subst e
      exact wtm 925 (by decide +kernel)
    rcases Nat.lt_or_ge k 4 with h3 | h3
    · have e : k = 3 := by omega
      subst e
      exact wtm 927 (by decide +kernel)
    rcases Nat.lt_or_ge k 5 with h4 | h4
    · have e : k = 4 := by omega
      subst e
      exact wtm 929 (by decide +kernel)
    rcases Nat.lt_or_ge k 6 with h5 | h5
    · have e : k = 5 := by omega
      subst e
      exact wtm 931 (by decide +kernel)
    rcases Nat.lt_or_ge k 7 with h6 | h6
    · have e : k = 6 := by omega
      subst e
      exact wtm 933 (by decide +kernel)
    rcases Nat.lt_or_ge k 8 with h7 | h7
    · have e : k = 7 := by omega
      subst e
      exact wtm 935 (by decide +kernel)
    rcases Nat.lt_or_ge k 9 with h8 | h8
    · have e : k = 8 := by omega
      subst e
      exact wtm 937 (by decide +kernel)
    rcases Nat.lt_or_ge k 10 with h9 | h9
    · have e : k = 9 := by omega
      subst e
      exact wtm 939 (by decide +kernel)
    rcases Nat.lt_or_ge k 11 with h10 | h10
    · have e : k = 10 := by omega
      subst e
      exact wtm 941 (by decide +kernel)
    rcases Nat.lt_or_ge k 12 with h11 | h11
    · have e : k = 11 := by omega
      subst e
      exact wtm 943 (by decide +kernel)
    rcases Nat.lt_or_ge k 13 with h12 | h12
    · have e : k = 12 := by omega
      subst e
      exact wtm 945 (by decide +kernel)
    rcases Nat.lt_or_ge k 14 with h13 | h13
    · have e : k = 13 := by omega
      subst e
      exact wtm 947 (by decide +kernel)
    rcases Nat.lt_or_ge k 15 with h14 | h14
    · have e : k = 14 := by omega
      subst e
      exact wtm 949 (by decide +kernel)
    rcases Nat.lt_or_ge k 16 with h15 | h15
    · have e : k = 15 := by omega
      subst e
      exact wtm 951 (by decide +kernel)
    rcases Nat.lt_or_ge k 17 with h16 | h16
    · have e : k = 16 := by omega
      subst e
      exact wtm 953 (by decide +kernel)
    rcases Nat.lt_or_ge k 18 with h17 | h17
    · have e : k = 17 := by omega
      subst e
      exact wtm 955 (by decide +kernel)
    rcases Nat.lt_or_ge k 19 with h18 | h18
    · have e : k = 18 := by omega
      subst e
      exact wtm 957 (by decide +kernel)
    rcases Nat.lt_or_ge k 20 with h19 | h19
    · have e : k = 19 := by omega
      subst e
      exact wtm 959 (by decide +kernel)
    rcases Nat.lt_or_ge k 21 with h20 | h20
    · have e : k = 20 := by omega
      subst e
      exact wtm 961 (by decide +kernel)
    rcases Nat.lt_or_ge k 22 with h21 | h21
    · have e : k = 21 := by omega
      subst e
      exact wtm 963 (by decide +kernel)
    rcases Nat.lt_or_ge k 23 with h22 | h22
    · have e : k = 22 := by omega
      subst e
      exact wtm 965 (by decide +kernel)
    rcases Nat.lt_or_ge k 24 with h23 | h23
    · have e : k = 23 := by omega
      subst e
      exact wtm 967 (by decide +kernel)
    rcases Nat.lt_or_ge k 25 with h24 | h24
    · have e : k = 24 := by omega
      subst e
      exact wtm 969 (by decide +kernel)
    rcases Nat.lt_or_ge k 26 with h25 | h25
    · have e : k = 25 := by omega
      subst e
      exact wtm 971 (by decide +kernel)
    rcases Nat.lt_or_ge k 27 with h26 | h26
    · have e : k = 26 := by omega
      subst e
      exact wtm 973 (by decide +kernel)
    rcases Nat.lt_or_ge k 28 with h27 | h27
    · have e : k = 27 := by omega
      subst e
      exact wtm 975 (by decide +kernel)
    rcases Nat.lt_or_ge k 29 with h28 | h28
    · have e : k = 28 := by omega
      subst e
      exact wtm 977 (by decide +kernel)
    rcases Nat.lt_or_ge k 30 with h29 | h29
    · have e : k = 29 := by omega
      subst e
      exact wtm 979 (by decide +kernel)
    rcases Nat.lt_or_ge k 31 with h30 | h30
    · have e : k = 30 := by omega
      subst e
      exact wtm 981 (by decide +kernel)
    rcases Nat.lt_or_ge k 32 with h31 | h31
    · have e : k = 31 := by omega
      subst e
      exact wtm 983 (by decide +kernel)
    rcases Nat.lt_or_ge k 33 with h32 | h32
    · have e : k = 32 := by omega
      subst e
      exact wtm 985 (by decide +kernel)
    rcases Nat.lt_or_ge k 34 with h33 | h33
    · have e : k = 33 := by omega
      subst e
      exact wtm 987 (by decide +kernel)
    rcases Nat.lt_or_ge k 35 with h34 | h34
    · have e : k = 34 := by omega
      subst e
      exact wtm 989 (by decide +kernel)
    rcases Nat.lt_or_ge k 36 with h35 | h35
    · have e : k = 35 := by omega
      subst e
      exact wtm 991 (by decide +kernel)
    rcases Nat.lt_or_ge k 37 with h36 | h36
    · have e : k = 36 := by omega
      subst e
      exact wtm 993 (by decide +kernel)
    rcases Nat.lt_or_ge k 38 with h37 | h37
    · have e : k = 37 := by omega
      subst e
      exact wtm 995 (by decide +kernel)
    rcases Nat.lt_or_ge k 39 with h38 | h38
    · have e : k = 38 := by omega
      subst e
      exact wtm 997 (by decide +kernel)
    rcases Nat.lt_or_ge k 40 with h39 | h39
    · have e : k = 39 := by omega
      subst e
      exact wtm 999 (by decide +kernel)
    rcases Nat.lt_or_ge k 41 with h40 | h40
    · have e : k = 40 := by omega
      subst e
      exact wtm 1001 (by decide +kernel)
    rcases Nat.lt_or_ge k 42 with h41 | h41
    · have e : k = 41 := by omega
      subst e
      exact wtm 1003 (by decide +kernel)
    rcases Nat.lt_or_ge k 43 with h42 | h42
    · have e : k = 42 := by omega
      subst e
      exact wtm 1005 (by decide +kernel)
    rcases Nat.lt_or_ge k 44 with h43 | h43
    · have e : k = 43 := by omega
      subst e
      exact wtm 1007 (by decide +kernel)
    rcases Nat.lt_or_ge k 45 with h44 | h44
    · have e : k = 44 := by omega
      subst e
      exact wtm 1009 (by decide +kernel)
    rcases Nat.lt_or_ge k 46 with h45 | h45
    · have e : k = 45 := by omega
      subst e
      exact wtm 1011 (by decide +kernel)
    rcases Nat.lt_or_ge k 47 with h46 | h46
    · have e : k = 46 := by omega
      subst e
      exact wtm 1013 (by decide +kernel)
    rcases Nat.lt_or_ge k 48 with h47 | h47
    · have e : k = 47 := by omega
      subst e
      exact wtm 1015 (by decide +kernel)
    rcases Nat.lt_or_ge k 49 with h48 | h48
    · have e : k = 48 := by omega
      subst e
      exact wtm 1017 (by decide +kernel)
    omega) k hk
theorem mi_X0_ask : MIV yX0_ask cX0_ask 5 (some .int) 4 := ⟨wtm 619 (by decide +kernel), wtm 618 (by decide +kernel), wtm 15 (by decide +kernel), wtm 78 (by decide +kernel), by decide +kernel, by decide +kernel⟩
theorem mi_X0_cross : MIV yX0_cross cX0_cross 6 none 2 := ⟨wtm 608 (by decide +kernel), wtm 606 (by decide +kernel), wtm 607 (by decide +kernel), wtm 78 (by decide +kernel), by decide +kernel, by decide +kernel⟩
theorem mi_X0_firstOtherwise : MIV yX0_firstOtherwise cX0_firstOtherwise 5 (some .int) 2 := ⟨wtm 783 (by decide +kernel), wtm 781 (by decide +kernel), wtm 782 (by decide +kernel), wtm 78 (by decide +kernel), by decide +kernel, by decide +kernel⟩
theorem mi_X0_isCooked : MIV yX0_isCooked cX0_isCooked 3 (some .boolean) 2 := ⟨wtm 667 (by decide +kernel), wtm 665 (by decide +kernel), wtm 666 (by decide +kernel), wtm 78 (by decide +kernel), by decide +kernel, by decide +kernel⟩
theorem mi_X0_judge : MIV yX0_judge cX0_judge 4 none 1 := ⟨wtm 615 (by decide +kernel), wtm 613 (by decide +kernel), wtm 614 (by decide +kernel), wtm 78 (by decide +kernel), by decide +kernel, by decide +kernel⟩
theorem mi_X0_ruleBy : MIV yX0_ruleBy cX0_ruleBy 2 none 1 := ⟨wtm 604 (by decide +kernel), wtm 603 (by decide +kernel), wtm 14 (by decide +kernel), wtm 78 (by decide +kernel), by decide +kernel, by decide +kernel⟩
theorem mi_X0_suppose : MIV yX0_suppose cX0_suppose 3 none 2 := ⟨wtm 779 (by decide +kernel), wtm 777 (by decide +kernel), wtm 778 (by decide +kernel), wtm 78 (by decide +kernel), by decide +kernel, by decide +kernel⟩
theorem mi_X0_takeUp : MIV yX0_takeUp cX0_takeUp 4 none 2 := ⟨wtm 598 (by decide +kernel), wtm 596 (by decide +kernel), wtm 597 (by decide +kernel), wtm 78 (by decide +kernel), by decide +kernel, by decide +kernel⟩
theorem mi_X0_useUp : MIV yX0_useUp cX0_useUp 6 none 2 := ⟨wtm 673 (by decide +kernel), wtm 671 (by decide +kernel), wtm 672 (by decide +kernel), wtm 78 (by decide +kernel), by decide +kernel, by decide +kernel⟩
theorem mi_X0_worth : MIV yX0_worth cX0_worth 1 (some .int) 0 := ⟨wtm 647 (by decide +kernel), wtm 645 (by decide +kernel), wtm 646 (by decide +kernel), wtm 78 (by decide +kernel), by decide +kernel, by decide +kernel⟩
theorem mi_X1_addDish : MIV yX1_addDish cX1_addDish 4 (some .int) 3 := ⟨wtm 589 (by decide +kernel), wtm 587 (by decide +kernel), wtm 588 (by decide +kernel), wtm 70 (by decide +kernel), by decide +kernel, by decide +kernel⟩
theorem mi_X1_become : MIV yX1_become cX1_become 2 none 1 := ⟨wtm 822 (by decide +kernel), wtm 820 (by decide +kernel), wtm 821 (by decide +kernel), wtm 70 (by decide +kernel), by decide +kernel, by decide +kernel⟩
theorem mi_X1_countCooked : MIV yX1_countCooked cX1_countCooked 2 none 1 := ⟨wtm 677 (by decide +kernel), wtm 675 (by decide +kernel), wtm 676 (by decide +kernel), wtm 70 (by decide +kernel), by decide +kernel, by decide +kernel⟩
theorem mi_X1_hasDish : MIV yX1_hasDish cX1_hasDish 2 (some .boolean) 1 := ⟨wtm 563 (by decide +kernel), wtm 561 (by decide +kernel), wtm 562 (by decide +kernel), wtm 70 (by decide +kernel), by decide +kernel, by decide +kernel⟩
theorem mi_X1_kitchenBy : MIV yX1_kitchenBy cX1_kitchenBy 3 (some .int) 2 := ⟨wtm 702 (by decide +kernel), wtm 700 (by decide +kernel), wtm 701 (by decide +kernel), wtm 70 (by decide +kernel), by decide +kernel, by decide +kernel⟩
theorem mi_X1_needsOf : MIV yX1_needsOf cX1_needsOf 3 (some .int) 2 := ⟨wtm 575 (by decide +kernel), wtm 573 (by decide +kernel), wtm 574 (by decide +kernel), wtm 70 (by decide +kernel), by decide +kernel, by decide +kernel⟩
theorem mi_X1_needsTogether : MIV yX1_needsTogether cX1_needsTogether 4 (some .int) 1 := ⟨wtm 571 (by decide +kernel), wtm 569 (by decide +kernel), wtm 570 (by decide +kernel), wtm 70 (by decide +kernel), by decide +kernel, by decide +kernel⟩
theorem mi_X1_storeOf : MIV yX1_storeOf cX1_storeOf 4 (some .int) 1 := ⟨wtm 559 (by decide +kernel), wtm 557 (by decide +kernel), wtm 558 (by decide +kernel), wtm 70 (by decide +kernel), by decide +kernel, by decide +kernel⟩
theorem mi_X2_bounded : MIS yX2_bounded cX2_bounded 1 (some .int) 1 := ⟨wtm 629 (by decide +kernel), wtm 628 (by decide +kernel), wtm 83 (by decide +kernel), by decide +kernel, by decide +kernel⟩
theorem mi_X2_fed : MIS yX2_fed cX2_fed 5 (some .int) 5 := ⟨wtm 636 (by decide +kernel), wtm 635 (by decide +kernel), wtm 83 (by decide +kernel), by decide +kernel, by decide +kernel⟩
theorem mi_X2_isUnder : MIS yX2_isUnder cX2_isUnder 4 (some .boolean) 2 := ⟨wtm 860 (by decide +kernel), wtm 859 (by decide +kernel), wtm 83 (by decide +kernel), by decide +kernel, by decide +kernel⟩
theorem mi_X2_signs : MIS yX2_signs cX2_signs 4 (some .boolean) 4 := ⟨wtm 643 (by decide +kernel), wtm 642 (by decide +kernel), wtm 83 (by decide +kernel), by decide +kernel, by decide +kernel⟩
theorem mi_X2_toll : MIS yX2_toll cX2_toll 5 (some .int) 5 := ⟨wtm 640 (by decide +kernel), wtm 639 (by decide +kernel), wtm 83 (by decide +kernel), by decide +kernel, by decide +kernel⟩
theorem mi_X3_goThrough : MIV yX3_goThrough cX3_goThrough 7 none 5 := ⟨wtm 733 (by decide +kernel), wtm 732 (by decide +kernel), wtm 19 (by decide +kernel), wtm 80 (by decide +kernel), by decide +kernel, by decide +kernel⟩
theorem mi_X3_seek : MIV yX3_seek cX3_seek 3 none 2 := ⟨wtm 727 (by decide +kernel), wtm 725 (by decide +kernel), wtm 726 (by decide +kernel), wtm 80 (by decide +kernel), by decide +kernel, by decide +kernel⟩
theorem mi_X3_weigh : MIV yX3_weigh cX3_weigh 5 none 4 := ⟨wtm 737 (by decide +kernel), wtm 736 (by decide +kernel), wtm 20 (by decide +kernel), wtm 80 (by decide +kernel), by decide +kernel, by decide +kernel⟩
theorem mi_X4_begin : MIV yX4_begin cX4_begin 1 none 0 := ⟨wtm 695 (by decide +kernel), wtm 694 (by decide +kernel), wtm 17 (by decide +kernel), wtm 79 (by decide +kernel), by decide +kernel, by decide +kernel⟩
theorem mi_X4_draw : MIV yX4_draw cX4_draw 5 (some .int) 1 := ⟨wtm 809 (by decide +kernel), wtm 807 (by decide +kernel), wtm 808 (by decide +kernel), wtm 79 (by decide +kernel), by decide +kernel, by decide +kernel⟩
theorem mi_X4_goOn : MIV yX4_goOn cX4_goOn 3 (some .boolean) 2 := ⟨wtm 706 (by decide +kernel), wtm 705 (by decide +kernel), wtm 18 (by decide +kernel), wtm 79 (by decide +kernel), by decide +kernel, by decide +kernel⟩
theorem mi_X4_play : MIV yX4_play cX4_play 4 none 1 := ⟨wtm 691 (by decide +kernel), wtm 689 (by decide +kernel), wtm 690 (by decide +kernel), wtm 79 (by decide +kernel), by decide +kernel, by decide +kernel⟩
theorem mi_X5_advance : MIV yX5_advance cX5_advance 1 none 0 := ⟨wtm 277 (by decide +kernel), wtm 276 (by decide +kernel), wtm 0 (by decide +kernel), wtm 71 (by decide +kernel), by decide +kernel, by decide +kernel⟩
theorem mi_X5_advanceNumber : MIV yX5_advanceNumber cX5_advanceNumber 1 none 0 := ⟨wtm 312 (by decide +kernel), wtm 311 (by decide +kernel), wtm 3 (by decide +kernel), wtm 71 (by decide +kernel), by decide +kernel, by decide +kernel⟩
theorem mi_X5_advanceWord : MIV yX5_advanceWord cX5_advanceWord 1 none 0 := ⟨wtm 284 (by decide +kernel), wtm 283 (by decide +kernel), wtm 1 (by decide +kernel), wtm 71 (by decide +kernel), by decide +kernel, by decide +kernel⟩
theorem mi_X5_append : MIV yX5_append cX5_append 2 (some .boolean) 1 := ⟨wtm 265 (by decide +kernel), wtm 263 (by decide +kernel), wtm 264 (by decide +kernel), wtm 71 (by decide +kernel), by decide +kernel, by decide +kernel⟩
theorem mi_X5_expect : MIV yX5_expect cX5_expect 2 none 1 := ⟨wtm 319 (by decide +kernel), wtm 318 (by decide +kernel), wtm 4 (by decide +kernel), wtm 71 (by decide +kernel), by decide +kernel, by decide +kernel⟩
theorem mi_X5_fail : MIV yX5_fail cX5_fail 1 none 0 := ⟨wtm 323 (by decide +kernel), wtm 322 (by decide +kernel), wtm 5 (by decide +kernel), wtm 71 (by decide +kernel), by decide +kernel, by decide +kernel⟩
theorem mi_X5_isDigit : MIS yX5_isDigit cX5_isDigit 1 (some .boolean) 1 := ⟨wtm 308 (by decide +kernel), wtm 307 (by decide +kernel), wtm 71 (by decide +kernel), by decide +kernel, by decide +kernel⟩
theorem mi_X5_isLetter : MIS yX5_isLetter cX5_isLetter 1 (some .boolean) 1 := ⟨wtm 280 (by decide +kernel), wtm 279 (by decide +kernel), wtm 71 (by decide +kernel), by decide +kernel, by decide +kernel⟩
theorem mi_X5_isSign : MIS yX5_isSign cX5_isSign 1 (some .boolean) 1 := ⟨wtm 315 (by decide +kernel), wtm 314 (by decide +kernel), wtm 71 (by decide +kernel), by decide +kernel, by decide +kernel⟩
theorem mi_X5_isWord : MIV yX5_isWord cX5_isWord 3 (some .boolean) 1 := ⟨wtm 289 (by decide +kernel), wtm 288 (by decide +kernel), wtm 2 (by decide +kernel), wtm 71 (by decide +kernel), by decide +kernel, by decide +kernel⟩
theorem mi_X5_readBoth : MIV yX5_readBoth cX5_readBoth 4 none 2 := ⟨wtm 331 (by decide +kernel), wtm 330 (by decide +kernel), wtm 7 (by decide +kernel), wtm 71 (by decide +kernel), by decide +kernel, by decide +kernel⟩
theorem mi_X5_readEither : MIV yX5_readEither cX5_readEither 4 none 2 := ⟨wtm 327 (by decide +kernel), wtm 326 (by decide +kernel), wtm 6 (by decide +kernel), wtm 71 (by decide +kernel), by decide +kernel, by decide +kernel⟩
theorem mi_X5_readInto : MIV yX5_readInto cX5_readInto 3 (some .int) 1 := ⟨wtm 269 (by decide +kernel), wtm 267 (by decide +kernel), wtm 268 (by decide +kernel), wtm 71 (by decide +kernel), by decide +kernel, by decide +kernel⟩
theorem mi_X5_readNot : MIV yX5_readNot cX5_readNot 4 none 2 := ⟨wtm 335 (by decide +kernel), wtm 334 (by decide +kernel), wtm 8 (by decide +kernel), wtm 71 (by decide +kernel), by decide +kernel, by decide +kernel⟩
theorem mi_X5_readOne : MIV yX5_readOne cX5_readOne 5 none 2 := ⟨wtm 351 (by decide +kernel), wtm 350 (by decide +kernel), wtm 11 (by decide +kernel), wtm 71 (by decide +kernel), by decide +kernel, by decide +kernel⟩
theorem mi_X5_readSum : MIV yX5_readSum cX5_readSum 5 none 2 := ⟨wtm 343 (by decide +kernel), wtm 342 (by decide +kernel), wtm 9 (by decide +kernel), wtm 71 (by decide +kernel), by decide +kernel, by decide +kernel⟩
theorem mi_X5_readTerm : MIV yX5_readTerm cX5_readTerm 4 none 2 := ⟨wtm 347 (by decide +kernel), wtm 346 (by decide +kernel), wtm 10 (by decide +kernel), wtm 71 (by decide +kernel), by decide +kernel, by decide +kernel⟩
theorem mi_X6_become : MIV yX6_become cX6_become 4 none 2 := ⟨wtm 793 (by decide +kernel), wtm 791 (by decide +kernel), wtm 792 (by decide +kernel), wtm 73 (by decide +kernel), by decide +kernel, by decide +kernel⟩
theorem mi_X6_hasItem : MIV yX6_hasItem cX6_hasItem 2 (some .boolean) 1 := ⟨wtm 801 (by decide +kernel), wtm 799 (by decide +kernel), wtm 800 (by decide +kernel), wtm 73 (by decide +kernel), by decide +kernel, by decide +kernel⟩
theorem mi_X6_hasRun : MIV yX6_hasRun cX6_hasRun 3 (some .boolean) 2 := ⟨wtm 848 (by decide +kernel), wtm 846 (by decide +kernel), wtm 847 (by decide +kernel), wtm 73 (by decide +kernel), by decide +kernel, by decide +kernel⟩
theorem mi_X6_isMissing : MIV yX6_isMissing cX6_isMissing 1 (some .boolean) 0 := ⟨wtm 771 (by decide +kernel), wtm 769 (by decide +kernel), wtm 770 (by decide +kernel), wtm 73 (by decide +kernel), by decide +kernel, by decide +kernel⟩
theorem mi_X6_put : MIV yX6_put cX6_put 3 none 2 := ⟨wtm 797 (by decide +kernel), wtm 795 (by decide +kernel), wtm 796 (by decide +kernel), wtm 73 (by decide +kernel), by decide +kernel, by decide +kernel⟩
theorem mi_X7_append : MIV yX7_append cX7_append 2 none 1 := ⟨wtm 339 (by decide +kernel), wtm 337 (by decide +kernel), wtm 338 (by decide +kernel), wtm 72 (by decide +kernel), by decide +kernel, by decide +kernel⟩
theorem mi_X7_clear : MIV yX7_clear cX7_clear 1 none 0 := ⟨wtm 273 (by decide +kernel), wtm 271 (by decide +kernel), wtm 272 (by decide +kernel), wtm 72 (by decide +kernel), by decide +kernel, by decide +kernel⟩
theorem mi_X7_endSection : MIV yX7_endSection cX7_endSection 2 none 1 := ⟨wtm 355 (by decide +kernel), wtm 353 (by decide +kernel), wtm 354 (by decide +kernel), wtm 72 (by decide +kernel), by decide +kernel, by decide +kernel⟩
theorem mi_X7_joined : MIS yX7_joined cX7_joined 3 (some .int) 3 := ⟨wtm 626 (by decide +kernel), wtm 625 (by decide +kernel), wtm 72 (by decide +kernel), by decide +kernel, by decide +kernel⟩
theorem mi_X7_nameCode : MIS yX7_nameCode cX7_nameCode 1 (some .int) 1 := ⟨wtm 294 (by decide +kernel), wtm 293 (by decide +kernel), wtm 72 (by decide +kernel), by decide +kernel, by decide +kernel⟩
theorem mi_X7_value : MIV yX7_value cX7_value 8 (some .int) 3 := ⟨wtm 623 (by decide +kernel), wtm 621 (by decide +kernel), wtm 622 (by decide +kernel), wtm 72 (by decide +kernel), by decide +kernel, by decide +kernel⟩
theorem mi_X8_dish : MIV yX8_dish cX8_dish 4 (some .int) 3 := ⟨wtm 585 (by decide +kernel), wtm 583 (by decide +kernel), wtm 584 (by decide +kernel), wtm 69 (by decide +kernel), by decide +kernel, by decide +kernel⟩
theorem mi_X8_guess : MIV yX8_guess cX8_guess 10 (some .int) 5 := ⟨wtm 775 (by decide +kernel), wtm 774 (by decide +kernel), wtm 22 (by decide +kernel), wtm 69 (by decide +kernel), by decide +kernel, by decide +kernel⟩
theorem mi_X8_isKitchen : MIS yX8_isKitchen cX8_isKitchen 1 (some .boolean) 1 := ⟨wtm 551 (by decide +kernel), wtm 550 (by decide +kernel), wtm 69 (by decide +kernel), by decide +kernel, by decide +kernel⟩
theorem mi_X8_isMenu : MIV yX8_isMenu cX8_isMenu 5 (some .boolean) 1 := ⟨wtm 686 (by decide +kernel), wtm 685 (by decide +kernel), wtm 16 (by decide +kernel), wtm 69 (by decide +kernel), by decide +kernel, by decide +kernel⟩
theorem mi_X8_isPlace : MIS yX8_isPlace cX8_isPlace 1 (some .boolean) 1 := ⟨wtm 545 (by decide +kernel), wtm 544 (by decide +kernel), wtm 69 (by decide +kernel), by decide +kernel, by decide +kernel⟩
theorem mi_X8_isSheet : MIS yX8_isSheet cX8_isSheet 1 (some .boolean) 1 := ⟨wtm 767 (by decide +kernel), wtm 766 (by decide +kernel), wtm 69 (by decide +kernel), by decide +kernel, by decide +kernel⟩
theorem mi_X8_lowestTerms : MIS yX8_lowestTerms cX8_lowestTerms 7 (some .long) 3 := ⟨wtm 760 (by decide +kernel), wtm 759 (by decide +kernel), wtm 69 (by decide +kernel), by decide +kernel, by decide +kernel⟩
theorem mi_X8_mostOf : MIS yX8_mostOf cX8_mostOf 1 (some .int) 1 := ⟨wtm 580 (by decide +kernel), wtm 579 (by decide +kernel), wtm 69 (by decide +kernel), by decide +kernel, by decide +kernel⟩
theorem mi_X8_placeOf : MIS yX8_placeOf cX8_placeOf 1 (some .int) 1 := ⟨wtm 548 (by decide +kernel), wtm 547 (by decide +kernel), wtm 69 (by decide +kernel), by decide +kernel, by decide +kernel⟩
theorem mi_X8_sideOf : MIV yX8_sideOf cX8_sideOf 5 (some .int) 1 := ⟨wtm 744 (by decide +kernel), wtm 743 (by decide +kernel), wtm 21 (by decide +kernel), wtm 69 (by decide +kernel), by decide +kernel, by decide +kernel⟩
theorem mi_X8_told : MIV yX8_told cX8_told 3 (some .int) 2 := ⟨wtm 542 (by decide +kernel), wtm 540 (by decide +kernel), wtm 541 (by decide +kernel), wtm 69 (by decide +kernel), by decide +kernel, by decide +kernel⟩
theorem mi_X8_toldOfDish : MIV yX8_toldOfDish cX8_toldOfDish 3 (some .int) 2 := ⟨wtm 567 (by decide +kernel), wtm 566 (by decide +kernel), wtm 13 (by decide +kernel), wtm 69 (by decide +kernel), by decide +kernel, by decide +kernel⟩
theorem mi_X8_toldOfKitchen : MIV yX8_toldOfKitchen cX8_toldOfKitchen 3 (some .int) 2 := ⟨wtm 555 (by decide +kernel), wtm 554 (by decide +kernel), wtm 12 (by decide +kernel), wtm 69 (by decide +kernel), by decide +kernel, by decide +kernel⟩
theorem mi_X9_added : MIV yX9_added cX9_added 4 (some .int) 0 := ⟨wtm 1137 (by decide +kernel), wtm 1136 (by decide +kernel), wtm 41 (by decide +kernel), wtm 81 (by decide +kernel), by decide +kernel, by decide +kernel⟩
theorem mi_X9_atom : MIV yX9_atom cX9_atom 2 (some .int) 0 := ⟨wtm 1145 (by decide +kernel), wtm 1144 (by decide +kernel), wtm 43 (by decide +kernel), wtm 81 (by decide +kernel), by decide +kernel, by decide +kernel⟩
theorem mi_X9_bestOf : MIV yX9_bestOf cX9_bestOf 3 none 2 := ⟨wtm 1256 (by decide +kernel), wtm 1255 (by decide +kernel), wtm 62 (by decide +kernel), wtm 81 (by decide +kernel), by decide +kernel, by decide +kernel⟩
theorem mi_X9_both : MIV yX9_both cX9_both 3 (some .int) 0 := ⟨wtm 1125 (by decide +kernel), wtm 1124 (by decide +kernel), wtm 38 (by decide +kernel), wtm 81 (by decide +kernel), by decide +kernel, by decide +kernel⟩
theorem mi_X9_byteAt : MIV yX9_byteAt cX9_byteAt 2 (some .int) 1 := ⟨wtm 1096 (by decide +kernel), wtm 1095 (by decide +kernel), wtm 32 (by decide +kernel), wtm 81 (by decide +kernel), by decide +kernel, by decide +kernel⟩
theorem mi_X9_canBe : MIV yX9_canBe cX9_canBe 4 (some .boolean) 2 := ⟨wtm 1187 (by decide +kernel), wtm 1186 (by decide +kernel), wtm 50 (by decide +kernel), wtm 81 (by decide +kernel), by decide +kernel, by decide +kernel⟩
theorem mi_X9_cooksAll : MIV yX9_cooksAll cX9_cooksAll 3 (some .int) 0 := ⟨wtm 1231 (by decide +kernel), wtm 1230 (by decide +kernel), wtm 59 (by decide +kernel), wtm 81 (by decide +kernel), by decide +kernel, by decide +kernel⟩
theorem mi_X9_counts : MIV yX9_counts cX9_counts 2 none 1 := ⟨wtm 1215 (by decide +kernel), wtm 1214 (by decide +kernel), wtm 56 (by decide +kernel), wtm 81 (by decide +kernel), by decide +kernel, by decide +kernel⟩
theorem mi_X9_crossAll : MIV yX9_crossAll cX9_crossAll 5 (some .int) 2 := ⟨wtm 1191 (by decide +kernel), wtm 1190 (by decide +kernel), wtm 51 (by decide +kernel), wtm 81 (by decide +kernel), by decide +kernel, by decide +kernel⟩
theorem mi_X9_crossOf : MIV yX9_crossOf cX9_crossOf 5 (some .int) 3 := ⟨wtm 1172 (by decide +kernel), wtm 1171 (by decide +kernel), wtm 47 (by decide +kernel), wtm 81 (by decide +kernel), by decide +kernel, by decide +kernel⟩
theorem mi_X9_dish : MIV yX9_dish cX9_dish 4 (some .int) 3 := ⟨wtm 1072 (by decide +kernel), wtm 1070 (by decide +kernel), wtm 1071 (by decide +kernel), wtm 81 (by decide +kernel), by decide +kernel, by decide +kernel⟩
theorem mi_X9_dishesOf : MIS yX9_dishesOf cX9_dishesOf 3 (some .int) 1 := ⟨wtm 1263 (by decide +kernel), wtm 1262 (by decide +kernel), wtm 81 (by decide +kernel), by decide +kernel, by decide +kernel⟩
theorem mi_X9_either : MIV yX9_either cX9_either 3 (some .int) 0 := ⟨wtm 1121 (by decide +kernel), wtm 1120 (by decide +kernel), wtm 37 (by decide +kernel), wtm 81 (by decide +kernel), by decide +kernel, by decide +kernel⟩
theorem mi_X9_fail : MIV yX9_fail cX9_fail 1 none 0 := ⟨wtm 1117 (by decide +kernel), wtm 1116 (by decide +kernel), wtm 36 (by decide +kernel), wtm 81 (by decide +kernel), by decide +kernel, by decide +kernel⟩
theorem mi_X9_feedsOf : MIV yX9_feedsOf cX9_feedsOf 7 (some .int) 2 := ⟨wtm 1199 (by decide +kernel), wtm 1198 (by decide +kernel), wtm 53 (by decide +kernel), wtm 81 (by decide +kernel), by decide +kernel, by decide +kernel⟩
theorem mi_X9_firstOther : MIV yX9_firstOther cX9_firstOther 4 (some .int) 2 := ⟨wtm 1291 (by decide +kernel), wtm 1290 (by decide +kernel), wtm 64 (by decide +kernel), wtm 81 (by decide +kernel), by decide +kernel, by decide +kernel⟩
theorem mi_X9_in : MIS yX9_in cX9_in 6 (some .boolean) 3 := ⟨wtm 1027 (by decide +kernel), wtm 1026 (by decide +kernel), wtm 81 (by decide +kernel), by decide +kernel, by decide +kernel⟩
theorem mi_X9_isCooked : MIV yX9_isCooked cX9_isCooked 3 (some .boolean) 2 := ⟨wtm 1235 (by decide +kernel), wtm 1234 (by decide +kernel), wtm 60 (by decide +kernel), wtm 81 (by decide +kernel), by decide +kernel, by decide +kernel⟩
theorem mi_X9_isDish : MIV yX9_isDish cX9_isDish 2 (some .boolean) 1 := ⟨wtm 1043 (by decide +kernel), wtm 1042 (by decide +kernel), wtm 25 (by decide +kernel), wtm 81 (by decide +kernel), by decide +kernel, by decide +kernel⟩
theorem mi_X9_isKitchen : MIS yX9_isKitchen cX9_isKitchen 1 (some .boolean) 1 := ⟨wtm 1039 (by decide +kernel), wtm 1038 (by decide +kernel), wtm 81 (by decide +kernel), by decide +kernel, by decide +kernel⟩
theorem mi_X9_isLetter : MIV yX9_isLetter cX9_isLetter 3 (some .boolean) 2 := ⟨wtm 1109 (by decide +kernel), wtm 1108 (by decide +kernel), wtm 34 (by decide +kernel), wtm 81 (by decide +kernel), by decide +kernel, by decide +kernel⟩
theorem mi_X9_isMenu : MIV yX9_isMenu cX9_isMenu 4 (some .boolean) 1 := ⟨wtm 1223 (by decide +kernel), wtm 1222 (by decide +kernel), wtm 57 (by decide +kernel), wtm 81 (by decide +kernel), by decide +kernel, by decide +kernel⟩
theorem mi_X9_isOf : MIV yX9_isOf cX9_isOf 3 (some .boolean) 2 := ⟨wtm 1031 (by decide +kernel), wtm 1030 (by decide +kernel), wtm 24 (by decide +kernel), wtm 81 (by decide +kernel), by decide +kernel, by decide +kernel⟩
theorem mi_X9_isPart : MIS yX9_isPart cX9_isPart 1 (some .boolean) 1 := ⟨wtm 1035 (by decide +kernel), wtm 1034 (by decide +kernel), wtm 81 (by decide +kernel), by decide +kernel, by decide +kernel⟩
theorem mi_X9_isRatified : MIV yX9_isRatified cX9_isRatified 4 (some .boolean) 2 := ⟨wtm 1207 (by decide +kernel), wtm 1206 (by decide +kernel), wtm 54 (by decide +kernel), wtm 81 (by decide +kernel), by decide +kernel, by decide +kernel⟩
theorem mi_X9_isSheet : MIS yX9_isSheet cX9_isSheet 1 (some .boolean) 1 := ⟨wtm 1286 (by decide +kernel), wtm 1285 (by decide +kernel), wtm 81 (by decide +kernel), by decide +kernel, by decide +kernel⟩
theorem mi_X9_isSign : MIV yX9_isSign cX9_isSign 2 (some .boolean) 1 := ⟨wtm 1149 (by decide +kernel), wtm 1148 (by decide +kernel), wtm 44 (by decide +kernel), wtm 81 (by decide +kernel), by decide +kernel, by decide +kernel⟩
theorem mi_X9_isWord : MIV yX9_isWord cX9_isWord 9 (some .boolean) 8 := ⟨wtm 1105 (by decide +kernel), wtm 1104 (by decide +kernel), wtm 33 (by decide +kernel), wtm 81 (by decide +kernel), by decide +kernel, by decide +kernel⟩
theorem mi_X9_lays : MIV yX9_lays cX9_lays 4 none 3 := ⟨wtm 1068 (by decide +kernel), wtm 1067 (by decide +kernel), wtm 29 (by decide +kernel), wtm 81 (by decide +kernel), by decide +kernel, by decide +kernel⟩
theorem mi_X9_laysAside : MIV yX9_laysAside cX9_laysAside 2 none 0 := ⟨wtm 1227 (by decide +kernel), wtm 1226 (by decide +kernel), wtm 58 (by decide +kernel), wtm 81 (by decide +kernel), by decide +kernel, by decide +kernel⟩
theorem mi_X9_laysBack : MIV yX9_laysBack cX9_laysBack 2 none 0 := ⟨wtm 1239 (by decide +kernel), wtm 1238 (by decide +kernel), wtm 61 (by decide +kernel), wtm 81 (by decide +kernel), by decide +kernel, by decide +kernel⟩
theorem mi_X9_likeSet : MIV yX9_likeSet cX9_likeSet 4 (some .int) 1 := ⟨wtm 1299 (by decide +kernel), wtm 1298 (by decide +kernel), wtm 66 (by decide +kernel), wtm 81 (by decide +kernel), by decide +kernel, by decide +kernel⟩
theorem mi_X9_lowest : MIS yX9_lowest cX9_lowest 11 (some .long) 3 := ⟨wtm 1279 (by decide +kernel), wtm 1278 (by decide +kernel), wtm 81 (by decide +kernel), by decide +kernel, by decide +kernel⟩
theorem mi_X9_menus : MIV yX9_menus cX9_menus 12 none 7 := ⟨wtm 1260 (by decide +kernel), wtm 1259 (by decide +kernel), wtm 63 (by decide +kernel), wtm 81 (by decide +kernel), by decide +kernel, by decide +kernel⟩
theorem mi_X9_mostOf : MIS yX9_mostOf cX9_mostOf 1 (some .int) 1 := ⟨wtm 1046 (by decide +kernel), wtm 1045 (by decide +kernel), wtm 81 (by decide +kernel), by decide +kernel, by decide +kernel⟩
theorem mi_X9_name : MIV yX9_name cX9_name 1 (some .int) 0 := ⟨wtm 1153 (by decide +kernel), wtm 1152 (by decide +kernel), wtm 45 (by decide +kernel), wtm 81 (by decide +kernel), by decide +kernel, by decide +kernel⟩
theorem mi_X9_needsAll : MIV yX9_needsAll cX9_needsAll 4 (some .int) 1 := ⟨wtm 1056 (by decide +kernel), wtm 1055 (by decide +kernel), wtm 26 (by decide +kernel), wtm 81 (by decide +kernel), by decide +kernel, by decide +kernel⟩
theorem mi_X9_needsOf : MIV yX9_needsOf cX9_needsOf 5 (some .int) 2 := ⟨wtm 1060 (by decide +kernel), wtm 1059 (by decide +kernel), wtm 27 (by decide +kernel), wtm 81 (by decide +kernel), by decide +kernel, by decide +kernel⟩
theorem mi_X9_next : MIV yX9_next cX9_next 3 none 0 := ⟨wtm 1092 (by decide +kernel), wtm 1091 (by decide +kernel), wtm 31 (by decide +kernel), wtm 81 (by decide +kernel), by decide +kernel, by decide +kernel⟩
theorem mi_X9_not : MIV yX9_not cX9_not 4 (some .int) 0 := ⟨wtm 1129 (by decide +kernel), wtm 1128 (by decide +kernel), wtm 39 (by decide +kernel), wtm 81 (by decide +kernel), by decide +kernel, by decide +kernel⟩
theorem mi_X9_opens : MIV yX9_opens cX9_opens 1 (some .boolean) 0 := ⟨wtm 1133 (by decide +kernel), wtm 1132 (by decide +kernel), wtm 40 (by decide +kernel), wtm 81 (by decide +kernel), by decide +kernel, by decide +kernel⟩
theorem mi_X9_over : MIS yX9_over cX9_over 1 (some .int) 1 := ⟨wtm 1358 (by decide +kernel), wtm 1357 (by decide +kernel), wtm 81 (by decide +kernel), by decide +kernel, by decide +kernel⟩
theorem mi_X9_part : MIV yX9_part cX9_part 3 (some .int) 1 := ⟨wtm 1113 (by decide +kernel), wtm 1112 (by decide +kernel), wtm 35 (by decide +kernel), wtm 81 (by decide +kernel), by decide +kernel, by decide +kernel⟩
theorem mi_X9_read : MIV yX9_read cX9_read 6 (some .int) 2 := ⟨wtm 1088 (by decide +kernel), wtm 1087 (by decide +kernel), wtm 30 (by decide +kernel), wtm 81 (by decide +kernel), by decide +kernel, by decide +kernel⟩
theorem mi_X9_says : MIV yX9_says cX9_says 7 (some .int) 5 := ⟨wtm 1180 (by decide +kernel), wtm 1179 (by decide +kernel), wtm 49 (by decide +kernel), wtm 81 (by decide +kernel), by decide +kernel, by decide +kernel⟩
theorem mi_X9_sheet : MIV yX9_sheet cX9_sheet 5 (some .int) 3 := ⟨wtm 1307 (by decide +kernel), wtm 1305 (by decide +kernel), wtm 1306 (by decide +kernel), wtm 81 (by decide +kernel), by decide +kernel, by decide +kernel⟩
theorem mi_X9_signsAt : MIV yX9_signsAt cX9_signsAt 7 (some .boolean) 4 := ⟨wtm 1195 (by decide +kernel), wtm 1194 (by decide +kernel), wtm 52 (by decide +kernel), wtm 81 (by decide +kernel), by decide +kernel, by decide +kernel⟩
theorem mi_X9_storeOf : MIV yX9_storeOf cX9_storeOf 4 (some .int) 1 := ⟨wtm 1064 (by decide +kernel), wtm 1063 (by decide +kernel), wtm 28 (by decide +kernel), wtm 81 (by decide +kernel), by decide +kernel, by decide +kernel⟩
theorem mi_X9_term : MIV yX9_term cX9_term 2 (some .int) 0 := ⟨wtm 1141 (by decide +kernel), wtm 1140 (by decide +kernel), wtm 42 (by decide +kernel), wtm 81 (by decide +kernel), by decide +kernel, by decide +kernel⟩
theorem mi_X9_told : MIV yX9_told cX9_told 3 (some .int) 2 := ⟨wtm 1051 (by decide +kernel), wtm 1049 (by decide +kernel), wtm 1050 (by decide +kernel), wtm 81 (by decide +kernel), by decide +kernel, by decide +kernel⟩
theorem mi_X9_tollOf : MIV yX9_tollOf cX9_tollOf 6 (some .int) 2 := ⟨wtm 1168 (by decide +kernel), wtm 1167 (by decide +kernel), wtm 46 (by decide +kernel), wtm 81 (by decide +kernel), by decide +kernel, by decide +kernel⟩
theorem mi_X9_tollPart : MIV yX9_tollPart cX9_tollPart 7 (some .int) 4 := ⟨wtm 1176 (by decide +kernel), wtm 1175 (by decide +kernel), wtm 48 (by decide +kernel), wtm 81 (by decide +kernel), by decide +kernel, by decide +kernel⟩
theorem mi_X9_uses : MIV yX9_uses cX9_uses 5 none 2 := ⟨wtm 1211 (by decide +kernel), wtm 1210 (by decide +kernel), wtm 55 (by decide +kernel), wtm 81 (by decide +kernel), by decide +kernel, by decide +kernel⟩
theorem mi_X9_within : MIS yX9_within cX9_within 3 (some .int) 3 := ⟨wtm 1183 (by decide +kernel), wtm 1182 (by decide +kernel), wtm 81 (by decide +kernel), by decide +kernel, by decide +kernel⟩
theorem mi_X9_worthDrawn : MIV yX9_worthDrawn cX9_worthDrawn 6 (some .int) 1 := ⟨wtm 1317 (by decide +kernel), wtm 1316 (by decide +kernel), wtm 67 (by decide +kernel), wtm 81 (by decide +kernel), by decide +kernel, by decide +kernel⟩
theorem mi_X9_worthIn : MIV yX9_worthIn cX9_worthIn 3 (some .int) 2 := ⟨wtm 1295 (by decide +kernel), wtm 1294 (by decide +kernel), wtm 65 (by decide +kernel), wtm 81 (by decide +kernel), by decide +kernel, by decide +kernel⟩
end
